theorem dX12_traceDone_0 : decode cX12_traceDone 0 = .ok (.aload_n 0, 1) := by decide +kernel
theorem dX12_traceDone_1 : decode cX12_traceDone 1 = .ok (.getfield 353, 3) := by decide +kernel
theorem dX12_traceDone_4 : decode cX12_traceDone 4 = .ok (.istore_n 2, 1) := by decide +kernel
theorem dX12_traceDone_5 : decode cX12_traceDone 5 = .ok (.aload_n 0, 1) := by decide +kernel
theorem dX12_traceDone_6 : decode cX12_traceDone 6 = .ok (.getfield 356, 3) := by decide +kernel
theorem dX12_traceDone_9 : decode cX12_traceDone 9 = .ok (.istore_n 3, 1) := by decide +kernel
theorem dX12_traceDone_10 : decode cX12_traceDone 10 = .ok (.aload_n 0, 1) := by decide +kernel
theorem dX12_traceDone_11 : decode cX12_traceDone 11 = .ok (.dup, 1) := by decide +kernel
theorem dX12_traceDone_12 : decode cX12_traceDone 12 = .ok (.getfield 518, 3) := by decide +kernel
theorem dX12_traceDone_15 : decode cX12_traceDone 15 = .ok (.iconst 1, 1) := by decide +kernel
theorem dX12_traceDone_16 : decode cX12_traceDone 16 = .ok (.iadd, 1) := by decide +kernel
theorem dX12_traceDone_17 : decode cX12_traceDone 17 = .ok (.putfield 518, 3) := by decide +kernel
theorem dX12_traceDone_20 : decode cX12_traceDone 20 = .ok (.aload_n 0, 1) := by decide +kernel
theorem dX12_traceDone_21 : decode cX12_traceDone 21 = .ok (.dup, 1) := by decide +kernel
theorem dX12_traceDone_22 : decode cX12_traceDone 22 = .ok (.getfield 356, 3) := by decide +kernel
theorem dX12_traceDone_25 : decode cX12_traceDone 25 = .ok (.iconst 1, 1) := by decide +kernel
theorem dX12_traceDone_26 : decode cX12_traceDone 26 = .ok (.iadd, 1) := by decide +kernel
theorem dX12_traceDone_27 : decode cX12_traceDone 27 = .ok (.putfield 356, 3) := by decide +kernel
theorem dX12_traceDone_30 : decode cX12_traceDone 30 = .ok (.iconst 0, 1) := by decide +kernel
theorem dX12_traceDone_31 : decode cX12_traceDone 31 = .ok (.istore 4, 2) := by decide +kernel
theorem dX12_traceDone_33 : decode cX12_traceDone 33 = .ok (.iload 4, 2) := by decide +kernel
theorem dX12_traceDone_35 : decode cX12_traceDone 35 = .ok (.bipush 34, 2) := by decide +kernel
theorem dX12_traceDone_37 : decode cX12_traceDone 37 = .ok (.if_icmp .ge 17, 3) := by decide +kernel
theorem dX12_traceDone_40 : decode cX12_traceDone 40 = .ok (.aload_n 0, 1) := by decide +kernel
theorem dX12_traceDone_41 : decode cX12_traceDone 41 = .ok (.getfield 176, 3) := by decide +kernel
theorem dX12_traceDone_44 : decode cX12_traceDone 44 = .ok (.iload 4, 2) := by decide +kernel
theorem dX12_traceDone_46 : decode cX12_traceDone 46 = .ok (.iconst 0, 1) := by decide +kernel
theorem dX12_traceDone_47 : decode cX12_traceDone 47 = .ok (.bastore, 1) := by decide +kernel
theorem dX12_traceDone_48 : decode cX12_traceDone 48 = .ok (.iinc 4 1, 3) := by decide +kernel
theorem dX12_traceDone_51 : decode cX12_traceDone 51 = .ok (.goto (-18), 3) := by decide +kernel
theorem dX12_traceDone_54 : decode cX12_traceDone 54 = .ok (.iconst 0, 1) := by decide +kernel
theorem dX12_traceDone_55 : decode cX12_traceDone 55 = .ok (.istore 4, 2) := by decide +kernel
theorem dX12_traceDone_57 : decode cX12_traceDone 57 = .ok (.iload 4, 2) := by decide +kernel
theorem dX12_traceDone_59 : decode cX12_traceDone 59 = .ok (.aload_n 0, 1) := by decide +kernel
theorem dX12_traceDone_60 : decode cX12_traceDone 60 = .ok (.iload_n 1, 1) := by decide +kernel
theorem dX12_traceDone_61 : decode cX12_traceDone 61 = .ok (.invokevirtual 521, 3) := by decide +kernel
theorem dX12_traceDone_64 : decode cX12_traceDone 64 = .ok (.if_icmp .ge 163, 3) := by decide +kernel
theorem dX12_traceDone_67 : decode cX12_traceDone 67 = .ok (.aload_n 0, 1) := by decide +kernel
theorem dX12_traceDone_68 : decode cX12_traceDone 68 = .ok (.iload_n 1, 1) := by decide +kernel
theorem dX12_traceDone_69 : decode cX12_traceDone 69 = .ok (.iload 4, 2) := by decide +kernel
theorem dX12_traceDone_71 : decode cX12_traceDone 71 = .ok (.invokevirtual 524, 3) := by decide +kernel
theorem dX12_traceDone_74 : decode cX12_traceDone 74 = .ok (.ifCond .ne 6, 3) := by decide +kernel
theorem dX12_traceDone_77 : decode cX12_traceDone 77 = .ok (.bipush (-3), 2) := by decide +kernel
theorem dX12_traceDone_79 : decode cX12_traceDone 79 = .ok (.ireturn, 1) := by decide +kernel
theorem dX12_traceDone_80 : decode cX12_traceDone 80 = .ok (.aload_n 0, 1) := by decide +kernel
theorem dX12_traceDone_81 : decode cX12_traceDone 81 = .ok (.iload_n 1, 1) := by decide +kernel
theorem dX12_traceDone_82 : decode cX12_traceDone 82 = .ok (.iload 4, 2) := by decide +kernel
theorem dX12_traceDone_84 : decode cX12_traceDone 84 = .ok (.invokevirtual 527, 3) := by decide +kernel
theorem dX12_traceDone_87 : decode cX12_traceDone 87 = .ok (.istore 5, 2) := by decide +kernel
theorem dX12_traceDone_89 : decode cX12_traceDone 89 = .ok (.iload 5, 2) := by decide +kernel
theorem dX12_traceDone_91 : decode cX12_traceDone 91 = .ok (.ifCond .ge 6, 3) := by decide +kernel
theorem dX12_traceDone_94 : decode cX12_traceDone 94 = .ok (.goto 127, 3) := by decide +kernel
theorem dX12_traceDone_97 : decode cX12_traceDone 97 = .ok (.aload_n 0, 1) := by decide +kernel
theorem dX12_traceDone_98 : decode cX12_traceDone 98 = .ok (.getfield 124, 3) := by decide +kernel
theorem dX12_traceDone_101 : decode cX12_traceDone 101 = .ok (.bipush 34, 2) := by decide +kernel
theorem dX12_traceDone_103 : decode cX12_traceDone 103 = .ok (.iload_n 1, 1) := by decide +kernel
theorem dX12_traceDone_104 : decode cX12_traceDone 104 = .ok (.imul, 1) := by decide +kernel
theorem dX12_traceDone_105 : decode cX12_traceDone 105 = .ok (.iload 5, 2) := by decide +kernel
theorem dX12_traceDone_107 : decode cX12_traceDone 107 = .ok (.iadd, 1) := by decide +kernel
theorem dX12_traceDone_108 : decode cX12_traceDone 108 = .ok (.iaload, 1) := by decide +kernel
theorem dX12_traceDone_109 : decode cX12_traceDone 109 = .ok (.istore 6, 2) := by decide +kernel
theorem dX12_traceDone_111 : decode cX12_traceDone 111 = .ok (.aload_n 0, 1) := by decide +kernel
theorem dX12_traceDone_112 : decode cX12_traceDone 112 = .ok (.getfield 179, 3) := by decide +kernel
theorem dX12_traceDone_115 : decode cX12_traceDone 115 = .ok (.iload 5, 2) := by decide +kernel
theorem dX12_traceDone_117 : decode cX12_traceDone 117 = .ok (.iaload, 1) := by decide +kernel
theorem dX12_traceDone_118 : decode cX12_traceDone 118 = .ok (.aload_n 0, 1) := by decide +kernel
theorem dX12_traceDone_119 : decode cX12_traceDone 119 = .ok (.getfield 145, 3) := by decide +kernel
theorem dX12_traceDone_122 : decode cX12_traceDone 122 = .ok (.bipush 34, 2) := by decide +kernel
theorem dX12_traceDone_124 : decode cX12_traceDone 124 = .ok (.iload_n 1, 1) := by decide +kernel
theorem dX12_traceDone_125 : decode cX12_traceDone 125 = .ok (.imul, 1) := by decide +kernel
theorem dX12_traceDone_126 : decode cX12_traceDone 126 = .ok (.iload 5, 2) := by decide +kernel
theorem dX12_traceDone_128 : decode cX12_traceDone 128 = .ok (.iadd, 1) := by decide +kernel
theorem dX12_traceDone_129 : decode cX12_traceDone 129 = .ok (.iaload, 1) := by decide +kernel
theorem dX12_traceDone_130 : decode cX12_traceDone 130 = .ok (.if_icmp .ne 78, 3) := by decide +kernel
theorem dX12_traceDone_133 : decode cX12_traceDone 133 = .ok (.aload_n 0, 1) := by decide +kernel
theorem dX12_traceDone_134 : decode cX12_traceDone 134 = .ok (.dup, 1) := by decide +kernel
theorem dX12_traceDone_135 : decode cX12_traceDone 135 = .ok (.getfield 530, 3) := by decide +kernel
theorem dX12_traceDone_138 : decode cX12_traceDone 138 = .ok (.iconst 1, 1) := by decide +kernel
theorem dX12_traceDone_139 : decode cX12_traceDone 139 = .ok (.iadd, 1) := by decide +kernel
theorem dX12_traceDone_140 : decode cX12_traceDone 140 = .ok (.putfield 530, 3) := by decide +kernel
theorem dX12_traceDone_143 : decode cX12_traceDone 143 = .ok (.aload_n 0, 1) := by decide +kernel
theorem dX12_traceDone_144 : decode cX12_traceDone 144 = .ok (.dup, 1) := by decide +kernel
theorem dX12_traceDone_145 : decode cX12_traceDone 145 = .ok (.getfield 353, 3) := by decide +kernel
theorem dX12_traceDone_148 : decode cX12_traceDone 148 = .ok (.iload 4, 2) := by decide +kernel
theorem dX12_traceDone_150 : decode cX12_traceDone 150 = .ok (.iconst 1, 1) := by decide +kernel
theorem dX12_traceDone_151 : decode cX12_traceDone 151 = .ok (.iadd, 1) := by decide +kernel
theorem dX12_traceDone_152 : decode cX12_traceDone 152 = .ok (.iadd, 1) := by decide +kernel
theorem dX12_traceDone_153 : decode cX12_traceDone 153 = .ok (.putfield 353, 3) := by decide +kernel
theorem dX12_traceDone_156 : decode cX12_traceDone 156 = .ok (.aload_n 0, 1) := by decide +kernel
theorem dX12_traceDone_157 : decode cX12_traceDone 157 = .ok (.iload_n 1, 1) := by decide +kernel
theorem dX12_traceDone_158 : decode cX12_traceDone 158 = .ok (.iload 5, 2) := by decide +kernel
theorem dX12_traceDone_160 : decode cX12_traceDone 160 = .ok (.invokevirtual 533, 3) := by decide +kernel
theorem dX12_traceDone_163 : decode cX12_traceDone 163 = .ok (.ifCond .ne 11, 3) := by decide +kernel
theorem dX12_traceDone_166 : decode cX12_traceDone 166 = .ok (.aload_n 0, 1) := by decide +kernel
theorem dX12_traceDone_167 : decode cX12_traceDone 167 = .ok (.iload_n 2, 1) := by decide +kernel
theorem dX12_traceDone_168 : decode cX12_traceDone 168 = .ok (.putfield 353, 3) := by decide +kernel
theorem dX12_traceDone_171 : decode cX12_traceDone 171 = .ok (.bipush (-3), 2) := by decide +kernel
theorem dX12_traceDone_173 : decode cX12_traceDone 173 = .ok (.ireturn, 1) := by decide +kernel
theorem dX12_traceDone_174 : decode cX12_traceDone 174 = .ok (.aload_n 0, 1) := by decide +kernel
theorem dX12_traceDone_175 : decode cX12_traceDone 175 = .ok (.iload_n 3, 1) := by decide +kernel
theorem dX12_traceDone_176 : decode cX12_traceDone 176 = .ok (.aload_n 0, 1) := by decide +kernel
theorem dX12_traceDone_177 : decode cX12_traceDone 177 = .ok (.getfield 109, 3) := by decide +kernel
theorem dX12_traceDone_180 : decode cX12_traceDone 180 = .ok (.iload 6, 2) := by decide +kernel
theorem dX12_traceDone_182 : decode cX12_traceDone 182 = .ok (.iaload, 1) := by decide +kernel
theorem dX12_traceDone_183 : decode cX12_traceDone 183 = .ok (.iadd, 1) := by decide +kernel
theorem dX12_traceDone_184 : decode cX12_traceDone 184 = .ok (.iconst 1, 1) := by decide +kernel
theorem dX12_traceDone_185 : decode cX12_traceDone 185 = .ok (.iadd, 1) := by decide +kernel
theorem dX12_traceDone_186 : decode cX12_traceDone 186 = .ok (.putfield 356, 3) := by decide +kernel
theorem dX12_traceDone_189 : decode cX12_traceDone 189 = .ok (.aload_n 0, 1) := by decide +kernel
theorem dX12_traceDone_190 : decode cX12_traceDone 190 = .ok (.iload 6, 2) := by decide +kernel
theorem dX12_traceDone_192 : decode cX12_traceDone 192 = .ok (.aload_n 0, 1) := by decide +kernel
theorem dX12_traceDone_193 : decode cX12_traceDone 193 = .ok (.getfield 145, 3) := by decide +kernel
theorem dX12_traceDone_196 : decode cX12_traceDone 196 = .ok (.bipush 34, 2) := by decide +kernel
theorem dX12_traceDone_198 : decode cX12_traceDone 198 = .ok (.iload_n 1, 1) := by decide +kernel
theorem dX12_traceDone_199 : decode cX12_traceDone 199 = .ok (.imul, 1) := by decide +kernel
theorem dX12_traceDone_200 : decode cX12_traceDone 200 = .ok (.iload 5, 2) := by decide +kernel
theorem dX12_traceDone_202 : decode cX12_traceDone 202 = .ok (.iadd, 1) := by decide +kernel
theorem dX12_traceDone_203 : decode cX12_traceDone 203 = .ok (.iaload, 1) := by decide +kernel
theorem dX12_traceDone_204 : decode cX12_traceDone 204 = .ok (.invokevirtual 378, 3) := by decide +kernel
theorem dX12_traceDone_207 : decode cX12_traceDone 207 = .ok (.ireturn, 1) := by decide +kernel
theorem dX12_traceDone_208 : decode cX12_traceDone 208 = .ok (.aload_n 0, 1) := by decide +kernel
theorem dX12_traceDone_209 : decode cX12_traceDone 209 = .ok (.iload_n 1, 1) := by decide +kernel
theorem dX12_traceDone_210 : decode cX12_traceDone 210 = .ok (.iload 5, 2) := by decide +kernel
theorem dX12_traceDone_212 : decode cX12_traceDone 212 = .ok (.invokevirtual 536, 3) := by decide +kernel
theorem dX12_traceDone_215 : decode cX12_traceDone 215 = .ok (.ifCond .eq 6, 3) := by decide +kernel
theorem dX12_traceDone_218 : decode cX12_traceDone 218 = .ok (.bipush (-3), 2) := by decide +kernel
theorem dX12_traceDone_220 : decode cX12_traceDone 220 = .ok (.ireturn, 1) := by decide +kernel
theorem dX12_traceDone_221 : decode cX12_traceDone 221 = .ok (.iinc 4 1, 3) := by decide +kernel
theorem dX12_traceDone_224 : decode cX12_traceDone 224 = .ok (.goto (-167), 3) := by decide +kernel
theorem dX12_traceDone_227 : decode cX12_traceDone 227 = .ok (.aload_n 0, 1) := by decide +kernel
theorem dX12_traceDone_228 : decode cX12_traceDone 228 = .ok (.dup, 1) := by decide +kernel
theorem dX12_traceDone_229 : decode cX12_traceDone 229 = .ok (.getfield 353, 3) := by decide +kernel
theorem dX12_traceDone_232 : decode cX12_traceDone 232 = .ok (.aload_n 0, 1) := by decide +kernel
theorem dX12_traceDone_233 : decode cX12_traceDone 233 = .ok (.iload_n 1, 1) := by decide +kernel
theorem dX12_traceDone_234 : decode cX12_traceDone 234 = .ok (.invokevirtual 521, 3) := by decide +kernel
theorem dX12_traceDone_237 : decode cX12_traceDone 237 = .ok (.iadd, 1) := by decide +kernel
theorem dX12_traceDone_238 : decode cX12_traceDone 238 = .ok (.putfield 353, 3) := by decide +kernel
theorem dX12_traceDone_241 : decode cX12_traceDone 241 = .ok (.aload_n 0, 1) := by decide +kernel
theorem dX12_traceDone_242 : decode cX12_traceDone 242 = .ok (.iload_n 3, 1) := by decide +kernel
theorem dX12_traceDone_243 : decode cX12_traceDone 243 = .ok (.aload_n 0, 1) := by decide +kernel
theorem dX12_traceDone_244 : decode cX12_traceDone 244 = .ok (.getfield 115, 3) := by decide +kernel
theorem dX12_traceDone_247 : decode cX12_traceDone 247 = .ok (.iload_n 1, 1) := by decide +kernel
theorem dX12_traceDone_248 : decode cX12_traceDone 248 = .ok (.iaload, 1) := by decide +kernel
theorem dX12_traceDone_249 : decode cX12_traceDone 249 = .ok (.iadd, 1) := by decide +kernel
theorem dX12_traceDone_250 : decode cX12_traceDone 250 = .ok (.putfield 356, 3) := by decide +kernel
theorem dX12_traceDone_253 : decode cX12_traceDone 253 = .ok (.aload_n 0, 1) := by decide +kernel
theorem dX12_traceDone_254 : decode cX12_traceDone 254 = .ok (.getfield 118, 3) := by decide +kernel
theorem dX12_traceDone_257 : decode cX12_traceDone 257 = .ok (.iload_n 1, 1) := by decide +kernel
theorem dX12_traceDone_258 : decode cX12_traceDone 258 = .ok (.iaload, 1) := by decide +kernel
theorem dX12_traceDone_259 : decode cX12_traceDone 259 = .ok (.iconst 1, 1) := by decide +kernel
theorem dX12_traceDone_260 : decode cX12_traceDone 260 = .ok (.isub, 1) := by decide +kernel
theorem dX12_traceDone_261 : decode cX12_traceDone 261 = .ok (.istore 4, 2) := by decide +kernel
theorem dX12_traceDone_263 : decode cX12_traceDone 263 = .ok (.aload_n 0, 1) := by decide +kernel
theorem dX12_traceDone_264 : decode cX12_traceDone 264 = .ok (.getfield 179, 3) := by decide +kernel
theorem dX12_traceDone_267 : decode cX12_traceDone 267 = .ok (.iload 4, 2) := by decide +kernel
theorem dX12_traceDone_269 : decode cX12_traceDone 269 = .ok (.iaload, 1) := by decide +kernel
theorem dX12_traceDone_270 : decode cX12_traceDone 270 = .ok (.ifCond .ge 8, 3) := by decide +kernel
theorem dX12_traceDone_273 : decode cX12_traceDone 273 = .ok (.bipush (-2), 2) := by decide +kernel
theorem dX12_traceDone_275 : decode cX12_traceDone 275 = .ok (.goto 26, 3) := by decide +kernel
theorem dX12_traceDone_278 : decode cX12_traceDone 278 = .ok (.aload_n 0, 1) := by decide +kernel
theorem dX12_traceDone_279 : decode cX12_traceDone 279 = .ok (.aload_n 0, 1) := by decide +kernel
theorem dX12_traceDone_280 : decode cX12_traceDone 280 = .ok (.getfield 124, 3) := by decide +kernel
theorem dX12_traceDone_283 : decode cX12_traceDone 283 = .ok (.bipush 34, 2) := by decide +kernel
theorem dX12_traceDone_285 : decode cX12_traceDone 285 = .ok (.iload_n 1, 1) := by decide +kernel
theorem dX12_traceDone_286 : decode cX12_traceDone 286 = .ok (.imul, 1) := by decide +kernel
theorem dX12_traceDone_287 : decode cX12_traceDone 287 = .ok (.iload 4, 2) := by decide +kernel
theorem dX12_traceDone_289 : decode cX12_traceDone 289 = .ok (.iadd, 1) := by decide +kernel
theorem dX12_traceDone_290 : decode cX12_traceDone 290 = .ok (.iaload, 1) := by decide +kernel
theorem dX12_traceDone_291 : decode cX12_traceDone 291 = .ok (.aload_n 0, 1) := by decide +kernel
theorem dX12_traceDone_292 : decode cX12_traceDone 292 = .ok (.getfield 179, 3) := by decide +kernel
theorem dX12_traceDone_295 : decode cX12_traceDone 295 = .ok (.iload 4, 2) := by decide +kernel
theorem dX12_traceDone_297 : decode cX12_traceDone 297 = .ok (.iaload, 1) := by decide +kernel
theorem dX12_traceDone_298 : decode cX12_traceDone 298 = .ok (.invokevirtual 378, 3) := by decide +kernel
theorem dX12_traceDone_301 : decode cX12_traceDone 301 = .ok (.ireturn, 1) := by decide +kernel
def fX12_traceDone_57 : Nat → Int → Int → Int → Int → Int → V_ → Option (Int × V_)
  | 0, _, _, _, _, _, _ => none
  | n + 1, x0, x1, x2, x3, x4, v =>
    bd_ (fX12_lengthOf x0 x1 v) fun q6 =>
    if q6.1 ≤ x4 then (
      bd_ (fX12_lengthOf x0 x1 q6.2) fun q8 =>
      lt_ (up_ q8.2 x0 45 (wr_ ((q6.2 x0 45) + q8.1))) fun v9 =>
      ck_ (0 ≤ x1 ∧ x1 < 8) (
      lt_ (up_ v9 x0 46 (wr_ (x3 + (v9 (x0 + 33) x1)))) fun v12 =>
      ck_ (0 ≤ x1 ∧ x1 < 8) (
      lt_ (wr_ ((v12 (x0 + 34) x1) - 1)) fun y15 =>
      ck_ (0 ≤ y15 ∧ y15 < 34) (
      if 0 ≤ (v12 (x0 + 54) y15) then (
        ck_ (0 ≤ wr_ ((wr_ (34 * x1)) + y15) ∧ wr_ ((wr_ (34 * x1)) + y15) < 272) (
        ck_ (0 ≤ y15 ∧ y15 < 34) (
        bd_ (fX12_wayTo x0 (v12 (x0 + 36) (wr_ ((wr_ (34 * x1)) + y15))) (v12 (x0 + 54) y15) v12) fun q23 =>
        some (q23.1, q23.2))))
      else (
        some ((-2), v12))))))
    else (
      bd_ (fX12_cycleDone x0 x1 x4 q6.2) fun q24 =>
      if q24.1 = 0 then (
        some ((-3), q24.2))
      else (
        bd_ (fX12_splitIn x0 x1 x4 q24.2) fun q26 =>
        if 0 ≤ q26.1 then (
          ck_ (0 ≤ wr_ ((wr_ (34 * x1)) + q26.1) ∧ wr_ ((wr_ (34 * x1)) + q26.1) < 272) (
          lt_ (q26.2 (x0 + 36) (wr_ ((wr_ (34 * x1)) + q26.1))) fun y30 =>
          ck_ (0 ≤ q26.1 ∧ q26.1 < 34) (
          ck_ (0 ≤ wr_ ((wr_ (34 * x1)) + q26.1) ∧ wr_ ((wr_ (34 * x1)) + q26.1) < 272) (
          if (q26.2 (x0 + 54) q26.1) = (q26.2 (x0 + 43) (wr_ ((wr_ (34 * x1)) + q26.1))) then (
            lt_ (up_ q26.2 x0 76 (wr_ ((q26.2 x0 76) + 1))) fun v39 =>
            lt_ (up_ v39 x0 45 (wr_ ((v39 x0 45) + (wr_ (x4 + 1))))) fun v40 =>
            bd_ (fX12_copiedDone x0 x1 q26.1 v40) fun q41 =>
            if q41.1 = 0 then (
              lt_ (up_ q41.2 x0 45 x2) fun v49 =>
              some ((-3), v49))
            else (
              ck_ (0 ≤ y30 ∧ y30 < 8) (
              lt_ (up_ q41.2 x0 46 (wr_ ((wr_ (x3 + (q41.2 (x0 + 31) y30))) + 1))) fun v45 =>
              ck_ (0 ≤ wr_ ((wr_ (34 * x1)) + q26.1) ∧ wr_ ((wr_ (34 * x1)) + q26.1) < 272) (
              bd_ (fX12_wayTo x0 y30 (v45 (x0 + 43) (wr_ ((wr_ (34 * x1)) + q26.1))) v45) fun q48 =>
              some (q48.1, q48.2)))))
          else (
            bd_ (fX12_hasHeld x0 x1 q26.1 q26.2) fun q36 =>
            if q36.1 = 0 then (
              lt_ (wr_ (x4 + 1)) fun y38 =>
              (fX12_traceDone_57 n) x0 x1 x2 x3 y38 q36.2)
            else (
              some ((-3), q36.2)))))))
        else (
          lt_ (wr_ (x4 + 1)) fun y50 =>
          (fX12_traceDone_57 n) x0 x1 x2 x3 y50 q26.2)))
def fX12_traceDone_33 : Nat → Int → Int → Int → Int → Int → V_ → Option (Int × V_)
  | 0, _, _, _, _, _, _ => none
  | n + 1, x0, x1, x2, x3, x4, v =>
    if 34 ≤ x4 then (
      fX12_traceDone_57 fu_ x0 x1 x2 x3 0 v)
    else (
      ck_ (0 ≤ x4 ∧ x4 < 34) (
      lt_ (up_ v (x0 + 53) x4 0) fun v53 =>
      lt_ (wr_ (x4 + 1)) fun y54 =>
      (fX12_traceDone_33 n) x0 x1 x2 x3 y54 v53))
def fX12_traceDone (x0 x1 : Int) (v : V_) : Option (Int × V_) :=
  lt_ (v x0 45) fun y1 =>
  lt_ (v x0 46) fun y2 =>
  lt_ (up_ v x0 75 (wr_ ((v x0 75) + 1))) fun v3 =>
  lt_ (up_ v3 x0 46 (wr_ ((v3 x0 46) + 1))) fun v4 =>
  fX12_traceDone_33 fu_ x0 x1 y1 y2 0 v4
section
variable {E : En_} {p : Program} {l : Launch} {e : Env} {s : State} {m : MethodId} {args : Array Value} {below : List Frame} {meth : Method} {c : Code} {sz : Int}
theorem tX12_traceDone_57 (C : MC_ E p s m c cX12_traceDone 7 RX12) (hr : meth.sig.returnType = (some FieldType.int)) (hlk : meth.locks = false) (hC : Cl_ E.2.2.2.2.2 sz) {out : Int × V_} : ∀ (n : Nat) (x0 x1 x2 x3 x4 : Int) (v : V_), (E.2.2.2.2.2 x0 ∧ ty_ x0 = 12 ∧ ln_ x0 = 0) → fX12_traceDone_57 n x0 x1 x2 x3 x4 v = some out → G_ E p l e (rm_ 4 94) s m args below meth c 7 sz (Q_ E below args s sz sz 0 out.1 out.2) 57 [(0, (2, x0)), (1, (0, x1)), (2, (0, x2)), (3, (0, x3)), (4, (0, x4))] [] v sz := by
  intro n
  induction n with
  | zero =>
    intro x0 x1 x2 x3 x4 v T0 h
    cases h
  | succ n H_57 =>
    intro x0 x1 x2 x3 x4 v T0 h
    rw [fX12_traceDone_57] at h
    refine g_iload C (i := 4) dX12_traceDone_57 4 rfl ?_
    refine g_aload_n C (f := 0) dX12_traceDone_59 0 rfl ?_
    refine g_iload_n C (f := 1) dX12_traceDone_60 1 rfl ?_
    obtain ⟨q6, eq6, h⟩ := bd_e h
    refine g_cV C [(0, x1)] (cX12_lengthOf_ok l hC T0 eq6) okX12 T0.2.1 (rg_ hC T0.1) km_RX12_521 cv_X12_lengthOf rfl (by decide) rfl rfl (Nat.le_of_ble_eq_true rfl) dX12_traceDone_61 ?_
    refine g_icmp_ge C 227 dX12_traceDone_64 rfl (fun c7 => ?_) (fun c7 => ?_)
    · replace h := if_t h c7
      refine g_aload_n C (f := 0) dX12_traceDone_227 0 rfl ?_
      refine g_dup C (Nat.ne_of_beq_eq_false rfl) dX12_traceDone_228 ?_
      refine g_getf C (k := 45) (kd := 0) okX12 (by decide) kf_RX12_353 dX12_traceDone_229 (rg_ hC T0.1) T0.2.1 rfl ?_
      refine g_aload_n C (f := 0) dX12_traceDone_232 0 rfl ?_
      refine g_iload_n C (f := 1) dX12_traceDone_233 1 rfl ?_
      obtain ⟨q8, eq8, h⟩ := bd_e h
      refine g_cV C [(0, x1)] (cX12_lengthOf_ok l hC T0 eq8) okX12 T0.2.1 (rg_ hC T0.1) km_RX12_521 cv_X12_lengthOf rfl (by decide) rfl rfl (Nat.le_of_ble_eq_true rfl) dX12_traceDone_234 ?_
      refine g_iadd C dX12_traceDone_237 ?_
      obtain ⟨v9, ev9, h⟩ := lt_e h
      refine g_putf C (k := 45) (kd := 0) okX12 (by decide) kf_RX12_353 dX12_traceDone_238 (rg_ hC T0.1) T0.2.1 rfl rfl nvI (Or.inl rfl) v9 ev9 ?_
      refine g_aload_n C (f := 0) dX12_traceDone_241 0 rfl ?_
      refine g_iload_n C (f := 3) dX12_traceDone_242 3 rfl ?_
      refine g_aload_n C (f := 0) dX12_traceDone_243 0 rfl ?_
      have F10 := fX12_51 hC T0.1 T0.2.1
      refine g_getR C (k := 51) (o := 33) okX12 (by decide) kf_RX12_115 dX12_traceDone_244 hC T0.1 T0.2.1 rfl rfl ?_
      refine g_iload_n C (f := 1) dX12_traceDone_247 1 rfl ?_
      obtain ⟨c11, h⟩ := ck_e h
      refine g_iald C 8 dX12_traceDone_248 (rg_ hC F10.1) F10.2.1 F10.2.2 c11 ?_
      refine g_iadd C dX12_traceDone_249 ?_
      obtain ⟨v12, ev12, h⟩ := lt_e h
      refine g_putf C (k := 46) (kd := 0) okX12 (by decide) kf_RX12_356 dX12_traceDone_250 (rg_ hC T0.1) T0.2.1 rfl rfl nvI (Or.inl rfl) v12 ev12 ?_
      refine g_aload_n C (f := 0) dX12_traceDone_253 0 rfl ?_
      have F13 := fX12_53 hC T0.1 T0.2.1
      refine g_getR C (k := 53) (o := 34) okX12 (by decide) kf_RX12_118 dX12_traceDone_254 hC T0.1 T0.2.1 rfl rfl ?_
      refine g_iload_n C (f := 1) dX12_traceDone_257 1 rfl ?_
      obtain ⟨c14, h⟩ := ck_e h
      refine g_iald C 8 dX12_traceDone_258 (rg_ hC F13.1) F13.2.1 F13.2.2 c14 ?_
      refine g_iconst C (n := 1) dX12_traceDone_259 (by decide) ?_
      refine g_isub C dX12_traceDone_260 ?_
      obtain ⟨y15, ey15, h⟩ := lt_e h
      refine g_set C ey15 ?_
      refine g_istore C (i := 4) (ls' := [(4, (0, y15)), (0, (2, x0)), (1, (0, x1)), (2, (0, x2)), (3, (0, x3))]) dX12_traceDone_261 (by decide) rfl ?_
      refine g_aload_n C (f := 0) dX12_traceDone_263 1 rfl ?_
      have F16 := fX12_74 hC T0.1 T0.2.1
      refine g_getR C (k := 74) (o := 54) okX12 (by decide) kf_RX12_179 dX12_traceDone_264 hC T0.1 T0.2.1 rfl rfl ?_
      refine g_iload C (i := 4) dX12_traceDone_267 0 rfl ?_
      obtain ⟨c17, h⟩ := ck_e h
      refine g_iald C 34 dX12_traceDone_269 (rg_ hC F16.1) F16.2.1 F16.2.2 c17 ?_
      refine g_if_ge C 278 dX12_traceDone_270 rfl (fun c18 => ?_) (fun c18 => ?_)
      · replace h := if_t h c18
        refine g_aload_n C (f := 0) dX12_traceDone_278 1 rfl ?_
        refine g_aload_n C (f := 0) dX12_traceDone_279 1 rfl ?_
        have F19 := fX12_55 hC T0.1 T0.2.1
        refine g_getR C (k := 55) (o := 36) okX12 (by decide) kf_RX12_124 dX12_traceDone_280 hC T0.1 T0.2.1 rfl rfl ?_
        refine g_bipush C (n := 34) dX12_traceDone_283 (by decide) ?_
        refine g_iload_n C (f := 1) dX12_traceDone_285 2 rfl ?_
        refine g_imul C dX12_traceDone_286 ?_
        refine g_iload C (i := 4) dX12_traceDone_287 0 rfl ?_
        refine g_iadd C dX12_traceDone_289 ?_
        obtain ⟨c20, h⟩ := ck_e h
        refine g_iald C 272 dX12_traceDone_290 (rg_ hC F19.1) F19.2.1 F19.2.2 c20 ?_
        refine g_aload_n C (f := 0) dX12_traceDone_291 1 rfl ?_
        have F21 := fX12_74 hC T0.1 T0.2.1
        refine g_getR C (k := 74) (o := 54) okX12 (by decide) kf_RX12_179 dX12_traceDone_292 hC T0.1 T0.2.1 rfl rfl ?_
        refine g_iload C (i := 4) dX12_traceDone_295 0 rfl ?_
        obtain ⟨c22, h⟩ := ck_e h
        refine g_iald C 34 dX12_traceDone_297 (rg_ hC F21.1) F21.2.1 F21.2.2 c22 ?_
        obtain ⟨q23, eq23, h⟩ := bd_e h
        refine g_cV C [(0, v12 (x0 + 36) (wr_ ((wr_ (34 * x1)) + y15))), (0, v12 (x0 + 54) y15)] (cX12_wayTo_ok l hC T0 eq23) okX12 T0.2.1 (rg_ hC T0.1) km_RX12_378 cv_X12_wayTo rfl (by decide) rfl rfl (Nat.le_of_ble_eq_true rfl) dX12_traceDone_298 ?_
        cases h
        exact g_iret C dX12_traceDone_301 hr hlk
      · replace h := if_f h c18
        refine g_bipush C (n := (-2)) dX12_traceDone_273 (by decide) ?_
        refine g_goto C 301 dX12_traceDone_275 rfl ?_
        cases h
        exact g_iret C dX12_traceDone_301 hr hlk
    · replace h := if_f h c7
      refine g_aload_n C (f := 0) dX12_traceDone_67 0 rfl ?_
      refine g_iload_n C (f := 1) dX12_traceDone_68 1 rfl ?_
      refine g_iload C (i := 4) dX12_traceDone_69 4 rfl ?_
      obtain ⟨q24, eq24, h⟩ := bd_e h
      refine g_cV C [(0, x1), (0, x4)] (cX12_cycleDone_ok l hC T0 eq24) okX12 T0.2.1 (rg_ hC T0.1) km_RX12_524 cv_X12_cycleDone rfl (by decide) rfl rfl (Nat.le_of_ble_eq_true rfl) dX12_traceDone_71 ?_
      refine g_if_ne C 80 dX12_traceDone_74 rfl (fun c25 => ?_) (fun c25 => ?_)
      · replace h := if_f h c25
        refine g_aload_n C (f := 0) dX12_traceDone_80 0 rfl ?_
        refine g_iload_n C (f := 1) dX12_traceDone_81 1 rfl ?_
        refine g_iload C (i := 4) dX12_traceDone_82 4 rfl ?_
        obtain ⟨q26, eq26, h⟩ := bd_e h
        refine g_cV C [(0, x1), (0, x4)] (cX12_splitIn_ok l hC T0 eq26) okX12 T0.2.1 (rg_ hC T0.1) km_RX12_527 cv_X12_splitIn rfl (by decide) rfl rfl (Nat.le_of_ble_eq_true rfl) dX12_traceDone_84 ?_
        refine g_istore C (i := 5) (ls' := [(5, (0, q26.1)), (0, (2, x0)), (1, (0, x1)), (2, (0, x2)), (3, (0, x3)), (4, (0, x4))]) dX12_traceDone_87 (by decide) rfl ?_
        refine g_iload C (i := 5) dX12_traceDone_89 0 rfl ?_
        refine g_if_ge C 97 dX12_traceDone_91 rfl (fun c27 => ?_) (fun c27 => ?_)
        · replace h := if_t h c27
          refine g_aload_n C (f := 0) dX12_traceDone_97 1 rfl ?_
          have F28 := fX12_55 hC T0.1 T0.2.1
          refine g_getR C (k := 55) (o := 36) okX12 (by decide) kf_RX12_124 dX12_traceDone_98 hC T0.1 T0.2.1 rfl rfl ?_
          refine g_bipush C (n := 34) dX12_traceDone_101 (by decide) ?_
          refine g_iload_n C (f := 1) dX12_traceDone_103 2 rfl ?_
          refine g_imul C dX12_traceDone_104 ?_
          refine g_iload C (i := 5) dX12_traceDone_105 0 rfl ?_
          refine g_iadd C dX12_traceDone_107 ?_
          obtain ⟨c29, h⟩ := ck_e h
          refine g_iald C 272 dX12_traceDone_108 (rg_ hC F28.1) F28.2.1 F28.2.2 c29 ?_
          obtain ⟨y30, ey30, h⟩ := lt_e h
          refine g_set C ey30 ?_
          refine g_istore C (i := 6) (ls' := [(6, (0, y30)), (5, (0, q26.1)), (0, (2, x0)), (1, (0, x1)), (2, (0, x2)), (3, (0, x3)), (4, (0, x4))]) dX12_traceDone_109 (by decide) rfl ?_
          refine g_aload_n C (f := 0) dX12_traceDone_111 2 rfl ?_
          have F31 := fX12_74 hC T0.1 T0.2.1
          refine g_getR C (k := 74) (o := 54) okX12 (by decide) kf_RX12_179 dX12_traceDone_112 hC T0.1 T0.2.1 rfl rfl ?_
          refine g_iload C (i := 5) dX12_traceDone_115 1 rfl ?_
          obtain ⟨c32, h⟩ := ck_e h
          refine g_iald C 34 dX12_traceDone_117 (rg_ hC F31.1) F31.2.1 F31.2.2 c32 ?_
          refine g_aload_n C (f := 0) dX12_traceDone_118 2 rfl ?_
          have F33 := fX12_62 hC T0.1 T0.2.1
          refine g_getR C (k := 62) (o := 43) okX12 (by decide) kf_RX12_145 dX12_traceDone_119 hC T0.1 T0.2.1 rfl rfl ?_
          refine g_bipush C (n := 34) dX12_traceDone_122 (by decide) ?_
          refine g_iload_n C (f := 1) dX12_traceDone_124 3 rfl ?_
          refine g_imul C dX12_traceDone_125 ?_
          refine g_iload C (i := 5) dX12_traceDone_126 1 rfl ?_
          refine g_iadd C dX12_traceDone_128 ?_
          obtain ⟨c34, h⟩ := ck_e h
          refine g_iald C 272 dX12_traceDone_129 (rg_ hC F33.1) F33.2.1 F33.2.2 c34 ?_
          refine g_icmp_ne C 208 dX12_traceDone_130 rfl (fun c35 => ?_) (fun c35 => ?_)
          · replace h := if_f h c35
            refine g_aload_n C (f := 0) dX12_traceDone_208 2 rfl ?_
            refine g_iload_n C (f := 1) dX12_traceDone_209 3 rfl ?_
            refine g_iload C (i := 5) dX12_traceDone_210 1 rfl ?_
            obtain ⟨q36, eq36, h⟩ := bd_e h
            refine g_cV C [(0, x1), (0, q26.1)] (cX12_hasHeld_ok l hC T0 eq36) okX12 T0.2.1 (rg_ hC T0.1) km_RX12_536 cv_X12_hasHeld rfl (by decide) rfl rfl (Nat.le_of_ble_eq_true rfl) dX12_traceDone_212 ?_
            refine g_if_eq C 221 dX12_traceDone_215 rfl (fun c37 => ?_) (fun c37 => ?_)
            · replace h := if_t h c37
              obtain ⟨y38, ey38, h⟩ := lt_e h
              refine g_iincx C (ls' := [(4, (0, y38)), (6, (0, y30)), (5, (0, q26.1)), (0, (2, x0)), (1, (0, x1)), (2, (0, x2)), (3, (0, x3))]) ey38 dX12_traceDone_221 6 rfl (by decide) (by decide) rfl ?_
              refine g_goto C 57 dX12_traceDone_224 rfl ?_
              refine g_sub [3, 4, 5, 6, 0] rfl rfl ?_
              exact H_57 _ _ _ _ _ _ T0 h
            · replace h := if_f h c37
              refine g_bipush C (n := (-3)) dX12_traceDone_218 (by decide) ?_
              cases h
              exact g_iret C dX12_traceDone_220 hr hlk
          · replace h := if_t h c35
            refine g_aload_n C (f := 0) dX12_traceDone_133 2 rfl ?_
            refine g_dup C (Nat.ne_of_beq_eq_false rfl) dX12_traceDone_134 ?_
            refine g_getf C (k := 76) (kd := 0) okX12 (by decide) kf_RX12_530 dX12_traceDone_135 (rg_ hC T0.1) T0.2.1 rfl ?_
            refine g_iconst C (n := 1) dX12_traceDone_138 (by decide) ?_
            refine g_iadd C dX12_traceDone_139 ?_
            obtain ⟨v39, ev39, h⟩ := lt_e h
            refine g_putf C (k := 76) (kd := 0) okX12 (by decide) kf_RX12_530 dX12_traceDone_140 (rg_ hC T0.1) T0.2.1 rfl rfl nvI (Or.inl rfl) v39 ev39 ?_
            refine g_aload_n C (f := 0) dX12_traceDone_143 2 rfl ?_
            refine g_dup C (Nat.ne_of_beq_eq_false rfl) dX12_traceDone_144 ?_
            refine g_getf C (k := 45) (kd := 0) okX12 (by decide) kf_RX12_353 dX12_traceDone_145 (rg_ hC T0.1) T0.2.1 rfl ?_
            refine g_iload C (i := 4) dX12_traceDone_148 6 rfl ?_
            refine g_iconst C (n := 1) dX12_traceDone_150 (by decide) ?_
            refine g_iadd C dX12_traceDone_151 ?_
            refine g_iadd C dX12_traceDone_152 ?_
            obtain ⟨v40, ev40, h⟩ := lt_e h
            refine g_putf C (k := 45) (kd := 0) okX12 (by decide) kf_RX12_353 dX12_traceDone_153 (rg_ hC T0.1) T0.2.1 rfl rfl nvI (Or.inl rfl) v40 ev40 ?_
            refine g_aload_n C (f := 0) dX12_traceDone_156 2 rfl ?_
            refine g_iload_n C (f := 1) dX12_traceDone_157 3 rfl ?_
            refine g_iload C (i := 5) dX12_traceDone_158 1 rfl ?_
            obtain ⟨q41, eq41, h⟩ := bd_e h
            refine g_cV C [(0, x1), (0, q26.1)] (cX12_copiedDone_ok l hC T0 eq41) okX12 T0.2.1 (rg_ hC T0.1) km_RX12_533 cv_X12_copiedDone rfl (by decide) rfl rfl (Nat.le_of_ble_eq_true rfl) dX12_traceDone_160 ?_
            refine g_if_ne C 174 dX12_traceDone_163 rfl (fun c42 => ?_) (fun c42 => ?_)
            · replace h := if_f h c42
              refine g_aload_n C (f := 0) dX12_traceDone_174 2 rfl ?_
              refine g_iload_n C (f := 3) dX12_traceDone_175 5 rfl ?_
              refine g_aload_n C (f := 0) dX12_traceDone_176 2 rfl ?_
              have F43 := fX12_49 hC T0.1 T0.2.1
              refine g_getR C (k := 49) (o := 31) okX12 (by decide) kf_RX12_109 dX12_traceDone_177 hC T0.1 T0.2.1 rfl rfl ?_
              refine g_iload C (i := 6) dX12_traceDone_180 0 rfl ?_
              obtain ⟨c44, h⟩ := ck_e h
              refine g_iald C 8 dX12_traceDone_182 (rg_ hC F43.1) F43.2.1 F43.2.2 c44 ?_
              refine g_iadd C dX12_traceDone_183 ?_
              refine g_iconst C (n := 1) dX12_traceDone_184 (by decide) ?_
              refine g_iadd C dX12_traceDone_185 ?_
              obtain ⟨v45, ev45, h⟩ := lt_e h
              refine g_putf C (k := 46) (kd := 0) okX12 (by decide) kf_RX12_356 dX12_traceDone_186 (rg_ hC T0.1) T0.2.1 rfl rfl nvI (Or.inl rfl) v45 ev45 ?_
              refine g_aload_n C (f := 0) dX12_traceDone_189 2 rfl ?_
              refine g_iload C (i := 6) dX12_traceDone_190 0 rfl ?_
              refine g_aload_n C (f := 0) dX12_traceDone_192 2 rfl ?_
              have F46 := fX12_62 hC T0.1 T0.2.1
              refine g_getR C (k := 62) (o := 43) okX12 (by decide) kf_RX12_145 dX12_traceDone_193 hC T0.1 T0.2.1 rfl rfl ?_
              refine g_bipush C (n := 34) dX12_traceDone_196 (by decide) ?_
              refine g_iload_n C (f := 1) dX12_traceDone_198 3 rfl ?_
              refine g_imul C dX12_traceDone_199 ?_
              refine g_iload C (i := 5) dX12_traceDone_200 1 rfl ?_
              refine g_iadd C dX12_traceDone_202 ?_
              obtain ⟨c47, h⟩ := ck_e h
              refine g_iald C 272 dX12_traceDone_203 (rg_ hC F46.1) F46.2.1 F46.2.2 c47 ?_
              obtain ⟨q48, eq48, h⟩ := bd_e h
              refine g_cV C [(0, y30), (0, v45 (x0 + 43) (wr_ ((wr_ (34 * x1)) + q26.1)))] (cX12_wayTo_ok l hC T0 eq48) okX12 T0.2.1 (rg_ hC T0.1) km_RX12_378 cv_X12_wayTo rfl (by decide) rfl rfl (Nat.le_of_ble_eq_true rfl) dX12_traceDone_204 ?_
              cases h
              exact g_iret C dX12_traceDone_207 hr hlk
            · replace h := if_t h c42
              refine g_aload_n C (f := 0) dX12_traceDone_166 2 rfl ?_
              refine g_iload_n C (f := 2) dX12_traceDone_167 4 rfl ?_
              obtain ⟨v49, ev49, h⟩ := lt_e h
              refine g_putf C (k := 45) (kd := 0) okX12 (by decide) kf_RX12_353 dX12_traceDone_168 (rg_ hC T0.1) T0.2.1 rfl rfl nvI (Or.inl rfl) v49 ev49 ?_
              refine g_bipush C (n := (-3)) dX12_traceDone_171 (by decide) ?_
              cases h
              exact g_iret C dX12_traceDone_173 hr hlk
        · replace h := if_f h c27
          refine g_goto C 221 dX12_traceDone_94 rfl ?_
          obtain ⟨y50, ey50, h⟩ := lt_e h
          refine g_iincx C (ls' := [(4, (0, y50)), (5, (0, q26.1)), (0, (2, x0)), (1, (0, x1)), (2, (0, x2)), (3, (0, x3))]) ey50 dX12_traceDone_221 5 rfl (by decide) (by decide) rfl ?_
          refine g_goto C 57 dX12_traceDone_224 rfl ?_
          refine g_sub [2, 3, 4, 5, 0] rfl rfl ?_
          exact H_57 _ _ _ _ _ _ T0 h
      · replace h := if_t h c25
        refine g_bipush C (n := (-3)) dX12_traceDone_77 (by decide) ?_
        cases h
        exact g_iret C dX12_traceDone_79 hr hlk
theorem tX12_traceDone_33 (C : MC_ E p s m c cX12_traceDone 7 RX12) (hr : meth.sig.returnType = (some FieldType.int)) (hlk : meth.locks = false) (hC : Cl_ E.2.2.2.2.2 sz) {out : Int × V_} : ∀ (n : Nat) (x0 x1 x2 x3 x4 : Int) (v : V_), (E.2.2.2.2.2 x0 ∧ ty_ x0 = 12 ∧ ln_ x0 = 0) → fX12_traceDone_33 n x0 x1 x2 x3 x4 v = some out → G_ E p l e (rm_ 4 94) s m args below meth c 7 sz (Q_ E below args s sz sz 0 out.1 out.2) 33 [(0, (2, x0)), (1, (0, x1)), (2, (0, x2)), (3, (0, x3)), (4, (0, x4))] [] v sz := by
  intro n
  induction n with
  | zero =>
    intro x0 x1 x2 x3 x4 v T0 h
    cases h
  | succ n H_33 =>
    intro x0 x1 x2 x3 x4 v T0 h
    rw [fX12_traceDone_33] at h
    refine g_iload C (i := 4) dX12_traceDone_33 4 rfl ?_
    refine g_bipush C (n := 34) dX12_traceDone_35 (by decide) ?_
    refine g_icmp_ge C 54 dX12_traceDone_37 rfl (fun c5 => ?_) (fun c5 => ?_)
    · replace h := if_t h c5
      refine g_iconst C (n := 0) dX12_traceDone_54 (by decide) ?_
      refine g_istore C (i := 4) (ls' := [(4, (0, 0)), (0, (2, x0)), (1, (0, x1)), (2, (0, x2)), (3, (0, x3))]) dX12_traceDone_55 (by decide) rfl ?_
      refine g_sub [1, 2, 3, 4, 0] rfl rfl ?_
      exact tX12_traceDone_57 C hr hlk hC _ _ _ _ _ _ _ T0 h
    · replace h := if_f h c5
      refine g_aload_n C (f := 0) dX12_traceDone_40 0 rfl ?_
      have F51 := fX12_73 hC T0.1 T0.2.1
      refine g_getR C (k := 73) (o := 53) okX12 (by decide) kf_RX12_176 dX12_traceDone_41 hC T0.1 T0.2.1 rfl rfl ?_
      refine g_iload C (i := 4) dX12_traceDone_44 4 rfl ?_
      refine g_iconst C (n := 0) dX12_traceDone_46 (by decide) ?_
      obtain ⟨c52, h⟩ := ck_e h
      obtain ⟨v53, ev53, h⟩ := lt_e h
      refine g_zast C 34 dX12_traceDone_47 (rg_ hC F51.1) F51.2.1 F51.2.2 c52 (Or.inl rfl) v53 ev53 ?_
      obtain ⟨y54, ey54, h⟩ := lt_e h
      refine g_iincx C (ls' := [(4, (0, y54)), (0, (2, x0)), (1, (0, x1)), (2, (0, x2)), (3, (0, x3))]) ey54 dX12_traceDone_48 4 rfl (by decide) (by decide) rfl ?_
      refine g_goto C 33 dX12_traceDone_51 rfl ?_
      refine g_sub [1, 2, 3, 4, 0] rfl rfl ?_
      exact H_33 _ _ _ _ _ _ T0 h
end
theorem cX12_traceDone_ok (l : Launch) {E : En_} {sz : Int} (hC : Cl_ E.2.2.2.2.2 sz) {x0 x1 : Int} {v : V_} {out : Int × V_} (T0 : (E.2.2.2.2.2 x0 ∧ ty_ x0 = 12 ∧ ln_ x0 = 0)) (h : fX12_traceDone x0 x1 v = some out) : Met l yX12_traceDone [.code yX12_traceDone cX12_traceDone 7 (some FieldType.int)] (rm_ 4 94) (Pc_ E sz v [(2, x0), (0, x1)]) (Qc_ E sz 0 out.1 out.2) 0 0 (fun q => E.1 < q) := by
  refine met_G0 RX12 (by decide +kernel) rfl (Nat.le_of_ble_eq_true rfl) ?_
  intro p e s m args below meth c C hr hlk
  rw [fX12_traceDone] at h
  refine g_aload_n C (f := 0) dX12_traceDone_0 0 rfl ?_
  refine g_getf C (k := 45) (kd := 0) okX12 (by decide) kf_RX12_353 dX12_traceDone_1 (rg_ hC T0.1) T0.2.1 rfl ?_
  obtain ⟨y1, ey1, h⟩ := lt_e h
  refine g_set C ey1 ?_
  refine g_istore_n C (f := 2) (ls' := [(2, (0, y1)), (0, (2, x0)), (1, (0, x1))]) dX12_traceDone_4 (by decide) rfl ?_
  refine g_aload_n C (f := 0) dX12_traceDone_5 1 rfl ?_
  refine g_getf C (k := 46) (kd := 0) okX12 (by decide) kf_RX12_356 dX12_traceDone_6 (rg_ hC T0.1) T0.2.1 rfl ?_
  obtain ⟨y2, ey2, h⟩ := lt_e h
  refine g_set C ey2 ?_
  refine g_istore_n C (f := 3) (ls' := [(3, (0, y2)), (2, (0, y1)), (0, (2, x0)), (1, (0, x1))]) dX12_traceDone_9 (by decide) rfl ?_
  refine g_aload_n C (f := 0) dX12_traceDone_10 2 rfl ?_
  refine g_dup C (Nat.ne_of_beq_eq_false rfl) dX12_traceDone_11 ?_
  refine g_getf C (k := 75) (kd := 0) okX12 (by decide) kf_RX12_518 dX12_traceDone_12 (rg_ hC T0.1) T0.2.1 rfl ?_
  refine g_iconst C (n := 1) dX12_traceDone_15 (by decide) ?_
  refine g_iadd C dX12_traceDone_16 ?_
  obtain ⟨v3, ev3, h⟩ := lt_e h
  refine g_putf C (k := 75) (kd := 0) okX12 (by decide) kf_RX12_518 dX12_traceDone_17 (rg_ hC T0.1) T0.2.1 rfl rfl nvI (Or.inl rfl) v3 ev3 ?_
  refine g_aload_n C (f := 0) dX12_traceDone_20 2 rfl ?_
  refine g_dup C (Nat.ne_of_beq_eq_false rfl) dX12_traceDone_21 ?_
  refine g_getf C (k := 46) (kd := 0) okX12 (by decide) kf_RX12_356 dX12_traceDone_22 (rg_ hC T0.1) T0.2.1 rfl ?_
  refine g_iconst C (n := 1) dX12_traceDone_25 (by decide) ?_
  refine g_iadd C dX12_traceDone_26 ?_
  obtain ⟨v4, ev4, h⟩ := lt_e h
  refine g_putf C (k := 46) (kd := 0) okX12 (by decide) kf_RX12_356 dX12_traceDone_27 (rg_ hC T0.1) T0.2.1 rfl rfl nvI (Or.inl rfl) v4 ev4 ?_
  refine g_iconst C (n := 0) dX12_traceDone_30 (by decide) ?_
  refine g_istore C (i := 4) (ls' := [(4, (0, 0)), (3, (0, y2)), (2, (0, y1)), (0, (2, x0)), (1, (0, x1))]) dX12_traceDone_31 (by decide) rfl ?_
  refine g_sub [3, 4, 2, 1, 0] rfl rfl ?_
  exact tX12_traceDone_33 C hr hlk hC _ _ _ _ _ _ _ T0 h
theorem dX12_runsFast_0 : decode cX12_runsFast 0 = .ok (.aload_n 0, 1) := by decide +kernel
theorem dX12_runsFast_1 : decode cX12_runsFast 1 = .ok (.invokevirtual 381, 3) := by decide +kernel
theorem dX12_runsFast_4 : decode cX12_runsFast 4 = .ok (.aload_n 0, 1) := by decide +kernel
theorem dX12_runsFast_5 : decode cX12_runsFast 5 = .ok (.iconst 0, 1) := by decide +kernel
theorem dX12_runsFast_6 : decode cX12_runsFast 6 = .ok (.putfield 518, 3) := by decide +kernel
theorem dX12_runsFast_9 : decode cX12_runsFast 9 = .ok (.aload_n 0, 1) := by decide +kernel
theorem dX12_runsFast_10 : decode cX12_runsFast 10 = .ok (.iconst 0, 1) := by decide +kernel
theorem dX12_runsFast_11 : decode cX12_runsFast 11 = .ok (.putfield 530, 3) := by decide +kernel
theorem dX12_runsFast_14 : decode cX12_runsFast 14 = .ok (.aload_n 0, 1) := by decide +kernel
theorem dX12_runsFast_15 : decode cX12_runsFast 15 = .ok (.getfield 43, 3) := by decide +kernel
theorem dX12_runsFast_18 : decode cX12_runsFast 18 = .ok (.aload_n 0, 1) := by decide +kernel
theorem dX12_runsFast_19 : decode cX12_runsFast 19 = .ok (.getfield 272, 3) := by decide +kernel
theorem dX12_runsFast_22 : decode cX12_runsFast 22 = .ok (.iaload, 1) := by decide +kernel
theorem dX12_runsFast_23 : decode cX12_runsFast 23 = .ok (.ifCond .ne 8, 3) := by decide +kernel
theorem dX12_runsFast_26 : decode cX12_runsFast 26 = .ok (.bipush (-2), 2) := by decide +kernel
theorem dX12_runsFast_28 : decode cX12_runsFast 28 = .ok (.goto 4, 3) := by decide +kernel
theorem dX12_runsFast_31 : decode cX12_runsFast 31 = .ok (.iconst 0, 1) := by decide +kernel
theorem dX12_runsFast_32 : decode cX12_runsFast 32 = .ok (.istore_n 1, 1) := by decide +kernel
theorem dX12_runsFast_33 : decode cX12_runsFast 33 = .ok (.iload_n 1, 1) := by decide +kernel
theorem dX12_runsFast_34 : decode cX12_runsFast 34 = .ok (.ifCond .lt 101, 3) := by decide +kernel
theorem dX12_runsFast_37 : decode cX12_runsFast 37 = .ok (.aload_n 0, 1) := by decide +kernel
theorem dX12_runsFast_38 : decode cX12_runsFast 38 = .ok (.getfield 356, 3) := by decide +kernel
theorem dX12_runsFast_41 : decode cX12_runsFast 41 = .ok (.sipush 200, 3) := by decide +kernel
theorem dX12_runsFast_44 : decode cX12_runsFast 44 = .ok (.if_icmp .ne 5, 3) := by decide +kernel
theorem dX12_runsFast_47 : decode cX12_runsFast 47 = .ok (.iconst 2, 1) := by decide +kernel
theorem dX12_runsFast_48 : decode cX12_runsFast 48 = .ok (.ireturn, 1) := by decide +kernel
theorem dX12_runsFast_49 : decode cX12_runsFast 49 = .ok (.aload_n 0, 1) := by decide +kernel
theorem dX12_runsFast_50 : decode cX12_runsFast 50 = .ok (.getfield 106, 3) := by decide +kernel
theorem dX12_runsFast_53 : decode cX12_runsFast 53 = .ok (.iload_n 1, 1) := by decide +kernel
theorem dX12_runsFast_54 : decode cX12_runsFast 54 = .ok (.iaload, 1) := by decide +kernel
theorem dX12_runsFast_55 : decode cX12_runsFast 55 = .ok (.istore_n 2, 1) := by decide +kernel
theorem dX12_runsFast_56 : decode cX12_runsFast 56 = .ok (.aload_n 0, 1) := by decide +kernel
theorem dX12_runsFast_57 : decode cX12_runsFast 57 = .ok (.getfield 109, 3) := by decide +kernel
theorem dX12_runsFast_60 : decode cX12_runsFast 60 = .ok (.iload_n 1, 1) := by decide +kernel
theorem dX12_runsFast_61 : decode cX12_runsFast 61 = .ok (.iaload, 1) := by decide +kernel
theorem dX12_runsFast_62 : decode cX12_runsFast 62 = .ok (.ifCond .ne 34, 3) := by decide +kernel
theorem dX12_runsFast_65 : decode cX12_runsFast 65 = .ok (.aload_n 0, 1) := by decide +kernel
theorem dX12_runsFast_66 : decode cX12_runsFast 66 = .ok (.getfield 356, 3) := by decide +kernel
theorem dX12_runsFast_69 : decode cX12_runsFast 69 = .ok (.aload_n 0, 1) := by decide +kernel
theorem dX12_runsFast_70 : decode cX12_runsFast 70 = .ok (.getfield 115, 3) := by decide +kernel
theorem dX12_runsFast_73 : decode cX12_runsFast 73 = .ok (.iload_n 2, 1) := by decide +kernel
theorem dX12_runsFast_74 : decode cX12_runsFast 74 = .ok (.iaload, 1) := by decide +kernel
theorem dX12_runsFast_75 : decode cX12_runsFast 75 = .ok (.iadd, 1) := by decide +kernel
theorem dX12_runsFast_76 : decode cX12_runsFast 76 = .ok (.sipush 200, 3) := by decide +kernel
theorem dX12_runsFast_79 : decode cX12_runsFast 79 = .ok (.if_icmp .gt 17, 3) := by decide +kernel
theorem dX12_runsFast_82 : decode cX12_runsFast 82 = .ok (.aload_n 0, 1) := by decide +kernel
theorem dX12_runsFast_83 : decode cX12_runsFast 83 = .ok (.iload_n 2, 1) := by decide +kernel
theorem dX12_runsFast_84 : decode cX12_runsFast 84 = .ok (.invokevirtual 539, 3) := by decide +kernel
theorem dX12_runsFast_87 : decode cX12_runsFast 87 = .ok (.istore_n 1, 1) := by decide +kernel
theorem dX12_runsFast_88 : decode cX12_runsFast 88 = .ok (.iload_n 1, 1) := by decide +kernel
theorem dX12_runsFast_89 : decode cX12_runsFast 89 = .ok (.bipush (-3), 2) := by decide +kernel
theorem dX12_runsFast_91 : decode cX12_runsFast 91 = .ok (.if_icmp .ne 41, 3) := by decide +kernel
theorem dX12_runsFast_94 : decode cX12_runsFast 94 = .ok (.iconst 1, 1) := by decide +kernel
theorem dX12_runsFast_95 : decode cX12_runsFast 95 = .ok (.ireturn, 1) := by decide +kernel
theorem dX12_runsFast_96 : decode cX12_runsFast 96 = .ok (.aload_n 0, 1) := by decide +kernel
theorem dX12_runsFast_97 : decode cX12_runsFast 97 = .ok (.getfield 353, 3) := by decide +kernel
theorem dX12_runsFast_100 : decode cX12_runsFast 100 = .ok (.istore_n 3, 1) := by decide +kernel
theorem dX12_runsFast_101 : decode cX12_runsFast 101 = .ok (.aload_n 0, 1) := by decide +kernel
theorem dX12_runsFast_102 : decode cX12_runsFast 102 = .ok (.dup, 1) := by decide +kernel
theorem dX12_runsFast_103 : decode cX12_runsFast 103 = .ok (.getfield 356, 3) := by decide +kernel
theorem dX12_runsFast_106 : decode cX12_runsFast 106 = .ok (.iconst 1, 1) := by decide +kernel
theorem dX12_runsFast_107 : decode cX12_runsFast 107 = .ok (.iadd, 1) := by decide +kernel
theorem dX12_runsFast_108 : decode cX12_runsFast 108 = .ok (.putfield 356, 3) := by decide +kernel
theorem dX12_runsFast_111 : decode cX12_runsFast 111 = .ok (.aload_n 0, 1) := by decide +kernel
theorem dX12_runsFast_112 : decode cX12_runsFast 112 = .ok (.iload_n 1, 1) := by decide +kernel
theorem dX12_runsFast_113 : decode cX12_runsFast 113 = .ok (.invokevirtual 384, 3) := by decide +kernel
theorem dX12_runsFast_116 : decode cX12_runsFast 116 = .ok (.ifCond .ne 10, 3) := by decide +kernel
theorem dX12_runsFast_119 : decode cX12_runsFast 119 = .ok (.aload_n 0, 1) := by decide +kernel
theorem dX12_runsFast_120 : decode cX12_runsFast 120 = .ok (.iload_n 3, 1) := by decide +kernel
theorem dX12_runsFast_121 : decode cX12_runsFast 121 = .ok (.putfield 353, 3) := by decide +kernel
theorem dX12_runsFast_124 : decode cX12_runsFast 124 = .ok (.iconst 1, 1) := by decide +kernel
theorem dX12_runsFast_125 : decode cX12_runsFast 125 = .ok (.ireturn, 1) := by decide +kernel
theorem dX12_runsFast_126 : decode cX12_runsFast 126 = .ok (.aload_n 0, 1) := by decide +kernel
theorem dX12_runsFast_127 : decode cX12_runsFast 127 = .ok (.iload_n 1, 1) := by decide +kernel
theorem dX12_runsFast_128 : decode cX12_runsFast 128 = .ok (.invokevirtual 387, 3) := by decide +kernel
theorem dX12_runsFast_131 : decode cX12_runsFast 131 = .ok (.istore_n 1, 1) := by decide +kernel
theorem dX12_runsFast_132 : decode cX12_runsFast 132 = .ok (.goto (-99), 3) := by decide +kernel
theorem dX12_runsFast_135 : decode cX12_runsFast 135 = .ok (.iconst 0, 1) := by decide +kernel
theorem dX12_runsFast_136 : decode cX12_runsFast 136 = .ok (.ireturn, 1) := by decide +kernel
def fX12_runsFast_96 (k33 : Int → Int → V_ → Option (Int × V_)) (x0 x1 : Int) (v : V_) : Option (Int × V_) :=
  lt_ (v x0 45) fun y15 =>
  lt_ (up_ v x0 46 (wr_ ((v x0 46) + 1))) fun v16 =>
  bd_ (fX12_linesDone x0 x1 v16) fun q17 =>
  if q17.1 = 0 then (
    lt_ (up_ q17.2 x0 45 y15) fun v20 =>
    some (1, v20))
  else (
    bd_ (fX12_endDone x0 x1 q17.2) fun q19 =>
    k33 x0 q19.1 q19.2)
def fX12_runsFast_33 : Nat → Int → Int → V_ → Option (Int × V_)
  | 0, _, _, _ => none
  | n + 1, x0, x1, v =>
    if x1 < 0 then (
      some (0, v))
    else (
      if (v x0 46) = 200 then (
        some (2, v))
      else (
        ck_ (0 ≤ x1 ∧ x1 < 8) (
        lt_ (v (x0 + 30) x1) fun y11 =>
        ck_ (0 ≤ x1 ∧ x1 < 8) (
        if (v (x0 + 31) x1) = 0 then (
          ck_ (0 ≤ y11 ∧ y11 < 8) (
          if 200 < (wr_ ((v x0 46) + (v (x0 + 33) y11))) then (
            fX12_runsFast_96 (fX12_runsFast_33 n) x0 x1 v)
          else (
            bd_ (fX12_traceDone x0 y11 v) fun q24 =>
            if q24.1 = (-3) then (
              some (1, q24.2))
            else (
              (fX12_runsFast_33 n) x0 q24.1 q24.2))))
        else (
          fX12_runsFast_96 (fX12_runsFast_33 n) x0 x1 v)))))
def fX12_runsFast (x0 : Int) (v : V_) : Option (Int × V_) :=
  bd_ (fX12_runsFrom x0 v) fun q1 =>
  lt_ (up_ q1.2 x0 75 0) fun v2 =>
  lt_ (up_ v2 x0 76 0) fun v3 =>
  ck_ (0 ≤ v3 x0 18 ∧ v3 x0 18 < 2) (
  if (v3 (x0 + 9) (v3 x0 18)) = 0 then (
    fX12_runsFast_33 fu_ x0 (-2) v3)
  else (
    fX12_runsFast_33 fu_ x0 0 v3))
section
variable {E : En_} {p : Program} {l : Launch} {e : Env} {s : State} {m : MethodId} {args : Array Value} {below : List Frame} {meth : Method} {c : Code} {sz : Int}
theorem tX12_runsFast_96 (C : MC_ E p s m c cX12_runsFast 4 RX12) (hr : meth.sig.returnType = (some FieldType.int)) (hlk : meth.locks = false) (hC : Cl_ E.2.2.2.2.2 sz) {out : Int × V_} (k33 : Int → Int → V_ → Option (Int × V_)) (H_33 : ∀ (x0 x1 : Int) (v : V_), (E.2.2.2.2.2 x0 ∧ ty_ x0 = 12 ∧ ln_ x0 = 0) → k33 x0 x1 v = some out → G_ E p l e (rm_ 5 120) s m args below meth c 4 sz (Q_ E below args s sz sz 0 out.1 out.2) 33 [(0, (2, x0)), (1, (0, x1))] [] v sz) (x0 x1 : Int) (v : V_) (T0 : (E.2.2.2.2.2 x0 ∧ ty_ x0 = 12 ∧ ln_ x0 = 0)) (h : fX12_runsFast_96 k33 x0 x1 v = some out) : G_ E p l e (rm_ 5 120) s m args below meth c 4 sz (Q_ E below args s sz sz 0 out.1 out.2) 96 [(0, (2, x0)), (1, (0, x1))] [] v sz := by
  rw [fX12_runsFast_96] at h
  refine g_aload_n C (f := 0) dX12_runsFast_96 0 rfl ?_
  refine g_getf C (k := 45) (kd := 0) okX12 (by decide) kf_RX12_353 dX12_runsFast_97 (rg_ hC T0.1) T0.2.1 rfl ?_
  obtain ⟨y15, ey15, h⟩ := lt_e h
  refine g_set C ey15 ?_
  refine g_istore_n C (f := 3) (ls' := [(3, (0, y15)), (0, (2, x0)), (1, (0, x1))]) dX12_runsFast_100 (by decide) rfl ?_
  refine g_aload_n C (f := 0) dX12_runsFast_101 1 rfl ?_
  refine g_dup C (Nat.ne_of_beq_eq_false rfl) dX12_runsFast_102 ?_
  refine g_getf C (k := 46) (kd := 0) okX12 (by decide) kf_RX12_356 dX12_runsFast_103 (rg_ hC T0.1) T0.2.1 rfl ?_
  refine g_iconst C (n := 1) dX12_runsFast_106 (by decide) ?_
  refine g_iadd C dX12_runsFast_107 ?_
  obtain ⟨v16, ev16, h⟩ := lt_e h
  refine g_putf C (k := 46) (kd := 0) okX12 (by decide) kf_RX12_356 dX12_runsFast_108 (rg_ hC T0.1) T0.2.1 rfl rfl nvI (Or.inl rfl) v16 ev16 ?_
  refine g_aload_n C (f := 0) dX12_runsFast_111 1 rfl ?_
  refine g_iload_n C (f := 1) dX12_runsFast_112 2 rfl ?_
  obtain ⟨q17, eq17, h⟩ := bd_e h
  refine g_cV C [(0, x1)] (cX12_linesDone_ok l hC T0 eq17) okX12 T0.2.1 (rg_ hC T0.1) km_RX12_384 cv_X12_linesDone rfl (by decide) rfl rfl (Nat.le_of_ble_eq_true rfl) dX12_runsFast_113 ?_
  refine g_if_ne C 126 dX12_runsFast_116 rfl (fun c18 => ?_) (fun c18 => ?_)
  · replace h := if_f h c18
    refine g_aload_n C (f := 0) dX12_runsFast_126 1 rfl ?_
    refine g_iload_n C (f := 1) dX12_runsFast_127 2 rfl ?_
    obtain ⟨q19, eq19, h⟩ := bd_e h
    refine g_cV C [(0, x1)] (cX12_endDone_ok l hC T0 eq19) okX12 T0.2.1 (rg_ hC T0.1) km_RX12_387 cv_X12_endDone rfl (by decide) rfl rfl (Nat.le_of_ble_eq_true rfl) dX12_runsFast_128 ?_
    refine g_istore_n C (f := 1) (ls' := [(1, (0, q19.1)), (3, (0, y15)), (0, (2, x0))]) dX12_runsFast_131 (by decide) rfl ?_
    refine g_goto C 33 dX12_runsFast_132 rfl ?_
    refine g_sub [2, 0] rfl rfl ?_
    exact H_33 _ _ _ T0 h
  · replace h := if_t h c18
    refine g_aload_n C (f := 0) dX12_runsFast_119 1 rfl ?_
    refine g_iload_n C (f := 3) dX12_runsFast_120 0 rfl ?_
    obtain ⟨v20, ev20, h⟩ := lt_e h
    refine g_putf C (k := 45) (kd := 0) okX12 (by decide) kf_RX12_353 dX12_runsFast_121 (rg_ hC T0.1) T0.2.1 rfl rfl nvI (Or.inl rfl) v20 ev20 ?_
    refine g_iconst C (n := 1) dX12_runsFast_124 (by decide) ?_
    cases h
    exact g_iret C dX12_runsFast_125 hr hlk
theorem tX12_runsFast_33 (C : MC_ E p s m c cX12_runsFast 4 RX12) (hr : meth.sig.returnType = (some FieldType.int)) (hlk : meth.locks = false) (hC : Cl_ E.2.2.2.2.2 sz) {out : Int × V_} : ∀ (n : Nat) (x0 x1 : Int) (v : V_), (E.2.2.2.2.2 x0 ∧ ty_ x0 = 12 ∧ ln_ x0 = 0) → fX12_runsFast_33 n x0 x1 v = some out → G_ E p l e (rm_ 5 120) s m args below meth c 4 sz (Q_ E below args s sz sz 0 out.1 out.2) 33 [(0, (2, x0)), (1, (0, x1))] [] v sz := by
  intro n
  induction n with
  | zero =>
    intro x0 x1 v T0 h
    cases h
  | succ n H_33 =>
    intro x0 x1 v T0 h
    rw [fX12_runsFast_33] at h
    refine g_iload_n C (f := 1) dX12_runsFast_33 1 rfl ?_
    refine g_if_lt C 135 dX12_runsFast_34 rfl (fun c7 => ?_) (fun c7 => ?_)
    · replace h := if_t h c7
      refine g_iconst C (n := 0) dX12_runsFast_135 (by decide) ?_
      cases h
      exact g_iret C dX12_runsFast_136 hr hlk
    · replace h := if_f h c7
      refine g_aload_n C (f := 0) dX12_runsFast_37 0 rfl ?_
      refine g_getf C (k := 46) (kd := 0) okX12 (by decide) kf_RX12_356 dX12_runsFast_38 (rg_ hC T0.1) T0.2.1 rfl ?_
      refine g_sipush C (n := 200) dX12_runsFast_41 (by decide) ?_
      refine g_icmp_ne C 49 dX12_runsFast_44 rfl (fun c8 => ?_) (fun c8 => ?_)
      · replace h := if_f h c8
        refine g_aload_n C (f := 0) dX12_runsFast_49 0 rfl ?_
        have F9 := fX12_48 hC T0.1 T0.2.1
        refine g_getR C (k := 48) (o := 30) okX12 (by decide) kf_RX12_106 dX12_runsFast_50 hC T0.1 T0.2.1 rfl rfl ?_
        refine g_iload_n C (f := 1) dX12_runsFast_53 1 rfl ?_
        obtain ⟨c10, h⟩ := ck_e h
        refine g_iald C 8 dX12_runsFast_54 (rg_ hC F9.1) F9.2.1 F9.2.2 c10 ?_
        obtain ⟨y11, ey11, h⟩ := lt_e h
        refine g_set C ey11 ?_
        refine g_istore_n C (f := 2) (ls' := [(2, (0, y11)), (0, (2, x0)), (1, (0, x1))]) dX12_runsFast_55 (by decide) rfl ?_
        refine g_aload_n C (f := 0) dX12_runsFast_56 1 rfl ?_
        have F12 := fX12_49 hC T0.1 T0.2.1
        refine g_getR C (k := 49) (o := 31) okX12 (by decide) kf_RX12_109 dX12_runsFast_57 hC T0.1 T0.2.1 rfl rfl ?_
        refine g_iload_n C (f := 1) dX12_runsFast_60 2 rfl ?_
        obtain ⟨c13, h⟩ := ck_e h
        refine g_iald C 8 dX12_runsFast_61 (rg_ hC F12.1) F12.2.1 F12.2.2 c13 ?_
        refine g_if_ne C 96 dX12_runsFast_62 rfl (fun c14 => ?_) (fun c14 => ?_)
        · replace h := if_f h c14
          refine g_sub [1, 2] rfl rfl ?_
          exact tX12_runsFast_96 C hr hlk hC _ H_33 _ _ _ T0 h
        · replace h := if_t h c14
          refine g_aload_n C (f := 0) dX12_runsFast_65 1 rfl ?_
          refine g_getf C (k := 46) (kd := 0) okX12 (by decide) kf_RX12_356 dX12_runsFast_66 (rg_ hC T0.1) T0.2.1 rfl ?_
          refine g_aload_n C (f := 0) dX12_runsFast_69 1 rfl ?_
          have F21 := fX12_51 hC T0.1 T0.2.1
          refine g_getR C (k := 51) (o := 33) okX12 (by decide) kf_RX12_115 dX12_runsFast_70 hC T0.1 T0.2.1 rfl rfl ?_
          refine g_iload_n C (f := 2) dX12_runsFast_73 0 rfl ?_
          obtain ⟨c22, h⟩ := ck_e h
          refine g_iald C 8 dX12_runsFast_74 (rg_ hC F21.1) F21.2.1 F21.2.2 c22 ?_
          refine g_iadd C dX12_runsFast_75 ?_
          refine g_sipush C (n := 200) dX12_runsFast_76 (by decide) ?_
          refine g_icmp_gt C 96 dX12_runsFast_79 rfl (fun c23 => ?_) (fun c23 => ?_)
          · replace h := if_t h c23
            refine g_sub [1, 2] rfl rfl ?_
            exact tX12_runsFast_96 C hr hlk hC _ H_33 _ _ _ T0 h
          · replace h := if_f h c23
            refine g_aload_n C (f := 0) dX12_runsFast_82 1 rfl ?_
            refine g_iload_n C (f := 2) dX12_runsFast_83 0 rfl ?_
            obtain ⟨q24, eq24, h⟩ := bd_e h
            refine g_cV C [(0, y11)] (cX12_traceDone_ok l hC T0 eq24) okX12 T0.2.1 (rg_ hC T0.1) km_RX12_539 cv_X12_traceDone rfl (by decide) rfl rfl (Nat.le_of_ble_eq_true rfl) dX12_runsFast_84 ?_
            refine g_istore_n C (f := 1) (ls' := [(1, (0, q24.1)), (2, (0, y11)), (0, (2, x0))]) dX12_runsFast_87 (by decide) rfl ?_
            refine g_iload_n C (f := 1) dX12_runsFast_88 0 rfl ?_
            refine g_bipush C (n := (-3)) dX12_runsFast_89 (by decide) ?_
            refine g_icmp_ne C 132 dX12_runsFast_91 rfl (fun c25 => ?_) (fun c25 => ?_)
            · replace h := if_f h c25
              refine g_goto C 33 dX12_runsFast_132 rfl ?_
              refine g_sub [2, 0] rfl rfl ?_
              exact H_33 _ _ _ T0 h
            · replace h := if_t h c25
              refine g_iconst C (n := 1) dX12_runsFast_94 (by decide) ?_
              cases h
              exact g_iret C dX12_runsFast_95 hr hlk
      · replace h := if_t h c8
        refine g_iconst C (n := 2) dX12_runsFast_47 (by decide) ?_
        cases h
        exact g_iret C dX12_runsFast_48 hr hlk
end
theorem cX12_runsFast_ok (l : Launch) {E : En_} {sz : Int} (hC : Cl_ E.2.2.2.2.2 sz) {x0 : Int} {v : V_} {out : Int × V_} (T0 : (E.2.2.2.2.2 x0 ∧ ty_ x0 = 12 ∧ ln_ x0 = 0)) (h : fX12_runsFast x0 v = some out) : Met l yX12_runsFast [.code yX12_runsFast cX12_runsFast 4 (some FieldType.int)] (rm_ 5 120) (Pc_ E sz v [(2, x0)]) (Qc_ E sz 0 out.1 out.2) 0 0 (fun q => E.1 < q) := by
  refine met_G0 RX12 (by decide +kernel) rfl (Nat.le_of_ble_eq_true rfl) ?_
  intro p e s m args below meth c C hr hlk
  rw [fX12_runsFast] at h
  refine g_aload_n C (f := 0) dX12_runsFast_0 0 rfl ?_
  obtain ⟨q1, eq1, h⟩ := bd_e h
  refine g_cV C [] (cX12_runsFrom_ok l hC T0 eq1) okX12 T0.2.1 (rg_ hC T0.1) km_RX12_381 cv_X12_runsFrom rfl (by decide) rfl rfl (Nat.le_of_ble_eq_true rfl) dX12_runsFast_1 ?_
  refine g_aload_n C (f := 0) dX12_runsFast_4 0 rfl ?_
  refine g_iconst C (n := 0) dX12_runsFast_5 (by decide) ?_
  obtain ⟨v2, ev2, h⟩ := lt_e h
  refine g_putf C (k := 75) (kd := 0) okX12 (by decide) kf_RX12_518 dX12_runsFast_6 (rg_ hC T0.1) T0.2.1 rfl rfl nvI (Or.inl rfl) v2 ev2 ?_
  refine g_aload_n C (f := 0) dX12_runsFast_9 0 rfl ?_
  refine g_iconst C (n := 0) dX12_runsFast_10 (by decide) ?_
  obtain ⟨v3, ev3, h⟩ := lt_e h
  refine g_putf C (k := 76) (kd := 0) okX12 (by decide) kf_RX12_530 dX12_runsFast_11 (rg_ hC T0.1) T0.2.1 rfl rfl nvI (Or.inl rfl) v3 ev3 ?_
  refine g_aload_n C (f := 0) dX12_runsFast_14 0 rfl ?_
  have F4 := fX12_22 hC T0.1 T0.2.1
  refine g_getR C (k := 22) (o := 9) okX12 (by decide) kf_RX12_43 dX12_runsFast_15 hC T0.1 T0.2.1 rfl rfl ?_
  refine g_aload_n C (f := 0) dX12_runsFast_18 0 rfl ?_
  refine g_getf C (k := 18) (kd := 0) okX12 (by decide) kf_RX12_272 dX12_runsFast_19 (rg_ hC T0.1) T0.2.1 rfl ?_
  obtain ⟨c5, h⟩ := ck_e h
  refine g_iald C 2 dX12_runsFast_22 (rg_ hC F4.1) F4.2.1 F4.2.2 c5 ?_
  refine g_if_ne C 31 dX12_runsFast_23 rfl (fun c6 => ?_) (fun c6 => ?_)
  · replace h := if_f h c6
    refine g_iconst C (n := 0) dX12_runsFast_31 (by decide) ?_
    refine g_istore_n C (f := 1) (ls' := [(1, (0, 0)), (0, (2, x0))]) dX12_runsFast_32 (by decide) rfl ?_
    refine g_sub [1, 0] rfl rfl ?_
    exact tX12_runsFast_33 C hr hlk hC _ _ _ _ T0 h
  · replace h := if_t h c6
    refine g_bipush C (n := (-2)) dX12_runsFast_26 (by decide) ?_
    refine g_goto C 32 dX12_runsFast_28 rfl ?_
    refine g_istore_n C (f := 1) (ls' := [(1, (0, (-2))), (0, (2, x0))]) dX12_runsFast_32 (by decide) rfl ?_
    refine g_sub [1, 0] rfl rfl ?_
    exact tX12_runsFast_33 C hr hlk hC _ _ _ _ T0 h
theorem dX12_runsSlow_0 : decode cX12_runsSlow 0 = .ok (.aload_n 0, 1) := by decide +kernel
theorem dX12_runsSlow_1 : decode cX12_runsSlow 1 = .ok (.invokevirtual 381, 3) := by decide +kernel
theorem dX12_runsSlow_4 : decode cX12_runsSlow 4 = .ok (.aload_n 0, 1) := by decide +kernel
theorem dX12_runsSlow_5 : decode cX12_runsSlow 5 = .ok (.getfield 43, 3) := by decide +kernel
theorem dX12_runsSlow_8 : decode cX12_runsSlow 8 = .ok (.aload_n 0, 1) := by decide +kernel
theorem dX12_runsSlow_9 : decode cX12_runsSlow 9 = .ok (.getfield 272, 3) := by decide +kernel
theorem dX12_runsSlow_12 : decode cX12_runsSlow 12 = .ok (.iaload, 1) := by decide +kernel
theorem dX12_runsSlow_13 : decode cX12_runsSlow 13 = .ok (.ifCond .ne 8, 3) := by decide +kernel
theorem dX12_runsSlow_16 : decode cX12_runsSlow 16 = .ok (.bipush (-2), 2) := by decide +kernel
theorem dX12_runsSlow_18 : decode cX12_runsSlow 18 = .ok (.goto 4, 3) := by decide +kernel
theorem dX12_runsSlow_21 : decode cX12_runsSlow 21 = .ok (.iconst 0, 1) := by decide +kernel
theorem dX12_runsSlow_22 : decode cX12_runsSlow 22 = .ok (.istore_n 1, 1) := by decide +kernel
theorem dX12_runsSlow_23 : decode cX12_runsSlow 23 = .ok (.iload_n 1, 1) := by decide +kernel
theorem dX12_runsSlow_24 : decode cX12_runsSlow 24 = .ok (.ifCond .lt 54, 3) := by decide +kernel
theorem dX12_runsSlow_27 : decode cX12_runsSlow 27 = .ok (.aload_n 0, 1) := by decide +kernel
theorem dX12_runsSlow_28 : decode cX12_runsSlow 28 = .ok (.getfield 356, 3) := by decide +kernel
theorem dX12_runsSlow_31 : decode cX12_runsSlow 31 = .ok (.sipush 200, 3) := by decide +kernel
theorem dX12_runsSlow_34 : decode cX12_runsSlow 34 = .ok (.if_icmp .ne 5, 3) := by decide +kernel
theorem dX12_runsSlow_37 : decode cX12_runsSlow 37 = .ok (.iconst 2, 1) := by decide +kernel
theorem dX12_runsSlow_38 : decode cX12_runsSlow 38 = .ok (.ireturn, 1) := by decide +kernel
theorem dX12_runsSlow_39 : decode cX12_runsSlow 39 = .ok (.aload_n 0, 1) := by decide +kernel
theorem dX12_runsSlow_40 : decode cX12_runsSlow 40 = .ok (.dup, 1) := by decide +kernel
theorem dX12_runsSlow_41 : decode cX12_runsSlow 41 = .ok (.getfield 356, 3) := by decide +kernel
theorem dX12_runsSlow_44 : decode cX12_runsSlow 44 = .ok (.iconst 1, 1) := by decide +kernel
theorem dX12_runsSlow_45 : decode cX12_runsSlow 45 = .ok (.iadd, 1) := by decide +kernel
theorem dX12_runsSlow_46 : decode cX12_runsSlow 46 = .ok (.putfield 356, 3) := by decide +kernel
theorem dX12_runsSlow_49 : decode cX12_runsSlow 49 = .ok (.aload_n 0, 1) := by decide +kernel
theorem dX12_runsSlow_50 : decode cX12_runsSlow 50 = .ok (.getfield 97, 3) := by decide +kernel
theorem dX12_runsSlow_53 : decode cX12_runsSlow 53 = .ok (.iload_n 1, 1) := by decide +kernel
theorem dX12_runsSlow_54 : decode cX12_runsSlow 54 = .ok (.dup2, 1) := by decide +kernel
theorem dX12_runsSlow_55 : decode cX12_runsSlow 55 = .ok (.iaload, 1) := by decide +kernel
theorem dX12_runsSlow_56 : decode cX12_runsSlow 56 = .ok (.iconst 1, 1) := by decide +kernel
theorem dX12_runsSlow_57 : decode cX12_runsSlow 57 = .ok (.iadd, 1) := by decide +kernel
theorem dX12_runsSlow_58 : decode cX12_runsSlow 58 = .ok (.iastore, 1) := by decide +kernel
theorem dX12_runsSlow_59 : decode cX12_runsSlow 59 = .ok (.aload_n 0, 1) := by decide +kernel
theorem dX12_runsSlow_60 : decode cX12_runsSlow 60 = .ok (.iload_n 1, 1) := by decide +kernel
theorem dX12_runsSlow_61 : decode cX12_runsSlow 61 = .ok (.invokevirtual 384, 3) := by decide +kernel
theorem dX12_runsSlow_64 : decode cX12_runsSlow 64 = .ok (.ifCond .ne 5, 3) := by decide +kernel
theorem dX12_runsSlow_67 : decode cX12_runsSlow 67 = .ok (.iconst 1, 1) := by decide +kernel
theorem dX12_runsSlow_68 : decode cX12_runsSlow 68 = .ok (.ireturn, 1) := by decide +kernel
theorem dX12_runsSlow_69 : decode cX12_runsSlow 69 = .ok (.aload_n 0, 1) := by decide +kernel
theorem dX12_runsSlow_70 : decode cX12_runsSlow 70 = .ok (.iload_n 1, 1) := by decide +kernel
theorem dX12_runsSlow_71 : decode cX12_runsSlow 71 = .ok (.invokevirtual 387, 3) := by decide +kernel
theorem dX12_runsSlow_74 : decode cX12_runsSlow 74 = .ok (.istore_n 1, 1) := by decide +kernel
theorem dX12_runsSlow_75 : decode cX12_runsSlow 75 = .ok (.goto (-52), 3) := by decide +kernel
theorem dX12_runsSlow_78 : decode cX12_runsSlow 78 = .ok (.iconst 0, 1) := by decide +kernel
theorem dX12_runsSlow_79 : decode cX12_runsSlow 79 = .ok (.ireturn, 1) := by decide +kernel
def fX12_runsSlow_23 : Nat → Int → Int → V_ → Option (Int × V_)
  | 0, _, _, _ => none
  | n + 1, x0, x1, v =>
    if x1 < 0 then (
      some (0, v))
    else (
      if (v x0 46) = 200 then (
        some (2, v))
      else (
        lt_ (up_ v x0 46 (wr_ ((v x0 46) + 1))) fun v7 =>
        ck_ (0 ≤ x1 ∧ x1 < 8) (
        ck_ (0 ≤ x1 ∧ x1 < 8) (
        lt_ (up_ v7 (x0 + 27) x1 (wr_ ((v7 (x0 + 27) x1) + 1))) fun v11 =>
        bd_ (fX12_linesDone x0 x1 v11) fun q12 =>
        if q12.1 = 0 then (
          some (1, q12.2))
        else (
          bd_ (fX12_endDone x0 x1 q12.2) fun q14 =>
          (fX12_runsSlow_23 n) x0 q14.1 q14.2)))))
def fX12_runsSlow (x0 : Int) (v : V_) : Option (Int × V_) :=
  bd_ (fX12_runsFrom x0 v) fun q1 =>
  ck_ (0 ≤ q1.2 x0 18 ∧ q1.2 x0 18 < 2) (
  if (q1.2 (x0 + 9) (q1.2 x0 18)) = 0 then (
    fX12_runsSlow_23 fu_ x0 (-2) q1.2)
  else (
    fX12_runsSlow_23 fu_ x0 0 q1.2))
section
variable {E : En_} {p : Program} {l : Launch} {e : Env} {s : State} {m : MethodId} {args : Array Value} {below : List Frame} {meth : Method} {c : Code} {sz : Int}
theorem tX12_runsSlow_23 (C : MC_ E p s m c cX12_runsSlow 2 RX12) (hr : meth.sig.returnType = (some FieldType.int)) (hlk : meth.locks = false) (hC : Cl_ E.2.2.2.2.2 sz) {out : Int × V_} : ∀ (n : Nat) (x0 x1 : Int) (v : V_), (E.2.2.2.2.2 x0 ∧ ty_ x0 = 12 ∧ ln_ x0 = 0) → fX12_runsSlow_23 n x0 x1 v = some out → G_ E p l e (rm_ 3 71) s m args below meth c 2 sz (Q_ E below args s sz sz 0 out.1 out.2) 23 [(0, (2, x0)), (1, (0, x1))] [] v sz := by
  intro n
  induction n with
  | zero =>
    intro x0 x1 v T0 h
    cases h
  | succ n H_23 =>
    intro x0 x1 v T0 h
    rw [fX12_runsSlow_23] at h
    refine g_iload_n C (f := 1) dX12_runsSlow_23 1 rfl ?_
    refine g_if_lt C 78 dX12_runsSlow_24 rfl (fun c5 => ?_) (fun c5 => ?_)
    · replace h := if_t h c5
      refine g_iconst C (n := 0) dX12_runsSlow_78 (by decide) ?_
      cases h
      exact g_iret C dX12_runsSlow_79 hr hlk
    · replace h := if_f h c5
      refine g_aload_n C (f := 0) dX12_runsSlow_27 0 rfl ?_
      refine g_getf C (k := 46) (kd := 0) okX12 (by decide) kf_RX12_356 dX12_runsSlow_28 (rg_ hC T0.1) T0.2.1 rfl ?_
      refine g_sipush C (n := 200) dX12_runsSlow_31 (by decide) ?_
      refine g_icmp_ne C 39 dX12_runsSlow_34 rfl (fun c6 => ?_) (fun c6 => ?_)
      · replace h := if_f h c6
        refine g_aload_n C (f := 0) dX12_runsSlow_39 0 rfl ?_
        refine g_dup C (Nat.ne_of_beq_eq_false rfl) dX12_runsSlow_40 ?_
        refine g_getf C (k := 46) (kd := 0) okX12 (by decide) kf_RX12_356 dX12_runsSlow_41 (rg_ hC T0.1) T0.2.1 rfl ?_
        refine g_iconst C (n := 1) dX12_runsSlow_44 (by decide) ?_
        refine g_iadd C dX12_runsSlow_45 ?_
        obtain ⟨v7, ev7, h⟩ := lt_e h
        refine g_putf C (k := 46) (kd := 0) okX12 (by decide) kf_RX12_356 dX12_runsSlow_46 (rg_ hC T0.1) T0.2.1 rfl rfl nvI (Or.inl rfl) v7 ev7 ?_
        refine g_aload_n C (f := 0) dX12_runsSlow_49 0 rfl ?_
        have F8 := fX12_43 hC T0.1 T0.2.1
        refine g_getR C (k := 43) (o := 27) okX12 (by decide) kf_RX12_97 dX12_runsSlow_50 hC T0.1 T0.2.1 rfl rfl ?_
        refine g_iload_n C (f := 1) dX12_runsSlow_53 1 rfl ?_
        refine g_dup2 C (Nat.ne_of_beq_eq_false rfl) (Nat.ne_of_beq_eq_false rfl) dX12_runsSlow_54 ?_
        obtain ⟨c9, h⟩ := ck_e h
        refine g_iald C 8 dX12_runsSlow_55 (rg_ hC F8.1) F8.2.1 F8.2.2 c9 ?_
        refine g_iconst C (n := 1) dX12_runsSlow_56 (by decide) ?_
        refine g_iadd C dX12_runsSlow_57 ?_
        obtain ⟨c10, h⟩ := ck_e h
        obtain ⟨v11, ev11, h⟩ := lt_e h
        refine g_iast C 8 dX12_runsSlow_58 (rg_ hC F8.1) F8.2.1 F8.2.2 c10 v11 ev11 ?_
        refine g_aload_n C (f := 0) dX12_runsSlow_59 0 rfl ?_
        refine g_iload_n C (f := 1) dX12_runsSlow_60 1 rfl ?_
        obtain ⟨q12, eq12, h⟩ := bd_e h
        refine g_cV C [(0, x1)] (cX12_linesDone_ok l hC T0 eq12) okX12 T0.2.1 (rg_ hC T0.1) km_RX12_384 cv_X12_linesDone rfl (by decide) rfl rfl (Nat.le_of_ble_eq_true rfl) dX12_runsSlow_61 ?_
        refine g_if_ne C 69 dX12_runsSlow_64 rfl (fun c13 => ?_) (fun c13 => ?_)
        · replace h := if_f h c13
          refine g_aload_n C (f := 0) dX12_runsSlow_69 0 rfl ?_
          refine g_iload_n C (f := 1) dX12_runsSlow_70 1 rfl ?_
          obtain ⟨q14, eq14, h⟩ := bd_e h
          refine g_cV C [(0, x1)] (cX12_endDone_ok l hC T0 eq14) okX12 T0.2.1 (rg_ hC T0.1) km_RX12_387 cv_X12_endDone rfl (by decide) rfl rfl (Nat.le_of_ble_eq_true rfl) dX12_runsSlow_71 ?_
          refine g_istore_n C (f := 1) (ls' := [(1, (0, q14.1)), (0, (2, x0))]) dX12_runsSlow_74 (by decide) rfl ?_
          refine g_goto C 23 dX12_runsSlow_75 rfl ?_
          refine g_sub [1, 0] rfl rfl ?_
          exact H_23 _ _ _ T0 h
        · replace h := if_t h c13
          refine g_iconst C (n := 1) dX12_runsSlow_67 (by decide) ?_
          cases h
          exact g_iret C dX12_runsSlow_68 hr hlk
      · replace h := if_t h c6
        refine g_iconst C (n := 2) dX12_runsSlow_37 (by decide) ?_
        cases h
        exact g_iret C dX12_runsSlow_38 hr hlk
end
theorem cX12_runsSlow_ok (l : Launch) {E : En_} {sz : Int} (hC : Cl_ E.2.2.2.2.2 sz) {x0 : Int} {v : V_} {out : Int × V_} (T0 : (E.2.2.2.2.2 x0 ∧ ty_ x0 = 12 ∧ ln_ x0 = 0)) (h : fX12_runsSlow x0 v = some out) : Met l yX12_runsSlow [.code yX12_runsSlow cX12_runsSlow 2 (some FieldType.int)] (rm_ 3 71) (Pc_ E sz v [(2, x0)]) (Qc_ E sz 0 out.1 out.2) 0 0 (fun q => E.1 < q) := by
  refine met_G0 RX12 (by decide +kernel) rfl (Nat.le_of_ble_eq_true rfl) ?_
  intro p e s m args below meth c C hr hlk
  rw [fX12_runsSlow] at h
  refine g_aload_n C (f := 0) dX12_runsSlow_0 0 rfl ?_
  obtain ⟨q1, eq1, h⟩ := bd_e h
  refine g_cV C [] (cX12_runsFrom_ok l hC T0 eq1) okX12 T0.2.1 (rg_ hC T0.1) km_RX12_381 cv_X12_runsFrom rfl (by decide) rfl rfl (Nat.le_of_ble_eq_true rfl) dX12_runsSlow_1 ?_
  refine g_aload_n C (f := 0) dX12_runsSlow_4 0 rfl ?_
  have F2 := fX12_22 hC T0.1 T0.2.1
  refine g_getR C (k := 22) (o := 9) okX12 (by decide) kf_RX12_43 dX12_runsSlow_5 hC T0.1 T0.2.1 rfl rfl ?_
  refine g_aload_n C (f := 0) dX12_runsSlow_8 0 rfl ?_
  refine g_getf C (k := 18) (kd := 0) okX12 (by decide) kf_RX12_272 dX12_runsSlow_9 (rg_ hC T0.1) T0.2.1 rfl ?_
  obtain ⟨c3, h⟩ := ck_e h
  refine g_iald C 2 dX12_runsSlow_12 (rg_ hC F2.1) F2.2.1 F2.2.2 c3 ?_
  refine g_if_ne C 21 dX12_runsSlow_13 rfl (fun c4 => ?_) (fun c4 => ?_)
  · replace h := if_f h c4
    refine g_iconst C (n := 0) dX12_runsSlow_21 (by decide) ?_
    refine g_istore_n C (f := 1) (ls' := [(1, (0, 0)), (0, (2, x0))]) dX12_runsSlow_22 (by decide) rfl ?_
    refine g_sub [1, 0] rfl rfl ?_
    exact tX12_runsSlow_23 C hr hlk hC _ _ _ _ T0 h
  · replace h := if_t h c4
    refine g_bipush C (n := (-2)) dX12_runsSlow_16 (by decide) ?_
    refine g_goto C 22 dX12_runsSlow_18 rfl ?_
    refine g_istore_n C (f := 1) (ls' := [(1, (0, (-2))), (0, (2, x0))]) dX12_runsSlow_22 (by decide) rfl ?_
    refine g_sub [1, 0] rfl rfl ?_
    exact tX12_runsSlow_23 C hr hlk hC _ _ _ _ T0 h
theorem dX12_agrees_0 : decode cX12_agrees 0 = .ok (.aload_n 0, 1) := by decide +kernel
theorem dX12_agrees_1 : decode cX12_agrees 1 = .ok (.invokevirtual 542, 3) := by decide +kernel
theorem dX12_agrees_4 : decode cX12_agrees 4 = .ok (.aload_n 0, 1) := by decide +kernel
theorem dX12_agrees_5 : decode cX12_agrees 5 = .ok (.invokevirtual 555, 3) := by decide +kernel
theorem dX12_agrees_8 : decode cX12_agrees 8 = .ok (.istore_n 1, 1) := by decide +kernel
theorem dX12_agrees_9 : decode cX12_agrees 9 = .ok (.iconst 0, 1) := by decide +kernel
theorem dX12_agrees_10 : decode cX12_agrees 10 = .ok (.istore_n 2, 1) := by decide +kernel
theorem dX12_agrees_11 : decode cX12_agrees 11 = .ok (.iload_n 2, 1) := by decide +kernel
theorem dX12_agrees_12 : decode cX12_agrees 12 = .ok (.bipush 14, 2) := by decide +kernel
theorem dX12_agrees_14 : decode cX12_agrees 14 = .ok (.if_icmp .ge 39, 3) := by decide +kernel
theorem dX12_agrees_17 : decode cX12_agrees 17 = .ok (.aload_n 0, 1) := by decide +kernel
theorem dX12_agrees_18 : decode cX12_agrees 18 = .ok (.getfield 185, 3) := by decide +kernel
theorem dX12_agrees_21 : decode cX12_agrees 21 = .ok (.iload_n 2, 1) := by decide +kernel
theorem dX12_agrees_22 : decode cX12_agrees 22 = .ok (.iload_n 2, 1) := by decide +kernel
theorem dX12_agrees_23 : decode cX12_agrees 23 = .ok (.bipush 6, 2) := by decide +kernel
theorem dX12_agrees_25 : decode cX12_agrees 25 = .ok (.if_icmp .ge 12, 3) := by decide +kernel
theorem dX12_agrees_28 : decode cX12_agrees 28 = .ok (.aload_n 0, 1) := by decide +kernel
theorem dX12_agrees_29 : decode cX12_agrees 29 = .ok (.getfield 91, 3) := by decide +kernel
theorem dX12_agrees_32 : decode cX12_agrees 32 = .ok (.iload_n 2, 1) := by decide +kernel
theorem dX12_agrees_33 : decode cX12_agrees 33 = .ok (.iaload, 1) := by decide +kernel
theorem dX12_agrees_34 : decode cX12_agrees 34 = .ok (.goto 12, 3) := by decide +kernel
theorem dX12_agrees_37 : decode cX12_agrees 37 = .ok (.aload_n 0, 1) := by decide +kernel
theorem dX12_agrees_38 : decode cX12_agrees 38 = .ok (.getfield 94, 3) := by decide +kernel
theorem dX12_agrees_41 : decode cX12_agrees 41 = .ok (.iload_n 2, 1) := by decide +kernel
theorem dX12_agrees_42 : decode cX12_agrees 42 = .ok (.bipush 6, 2) := by decide +kernel
theorem dX12_agrees_44 : decode cX12_agrees 44 = .ok (.isub, 1) := by decide +kernel
theorem dX12_agrees_45 : decode cX12_agrees 45 = .ok (.iaload, 1) := by decide +kernel
theorem dX12_agrees_46 : decode cX12_agrees 46 = .ok (.iastore, 1) := by decide +kernel
theorem dX12_agrees_47 : decode cX12_agrees 47 = .ok (.iinc 2 1, 3) := by decide +kernel
theorem dX12_agrees_50 : decode cX12_agrees 50 = .ok (.goto (-39), 3) := by decide +kernel
theorem dX12_agrees_53 : decode cX12_agrees 53 = .ok (.aload_n 0, 1) := by decide +kernel
theorem dX12_agrees_54 : decode cX12_agrees 54 = .ok (.invokevirtual 588, 3) := by decide +kernel
theorem dX12_agrees_57 : decode cX12_agrees 57 = .ok (.iload_n 1, 1) := by decide +kernel
theorem dX12_agrees_58 : decode cX12_agrees 58 = .ok (.if_icmp .eq 5, 3) := by decide +kernel
theorem dX12_agrees_61 : decode cX12_agrees 61 = .ok (.iconst 0, 1) := by decide +kernel
theorem dX12_agrees_62 : decode cX12_agrees 62 = .ok (.ireturn, 1) := by decide +kernel
theorem dX12_agrees_63 : decode cX12_agrees 63 = .ok (.iconst 0, 1) := by decide +kernel
theorem dX12_agrees_64 : decode cX12_agrees 64 = .ok (.istore_n 2, 1) := by decide +kernel
theorem dX12_agrees_65 : decode cX12_agrees 65 = .ok (.iload_n 2, 1) := by decide +kernel
theorem dX12_agrees_66 : decode cX12_agrees 66 = .ok (.bipush 14, 2) := by decide +kernel
theorem dX12_agrees_68 : decode cX12_agrees 68 = .ok (.if_icmp .ge 48, 3) := by decide +kernel
theorem dX12_agrees_71 : decode cX12_agrees 71 = .ok (.iload_n 1, 1) := by decide +kernel
theorem dX12_agrees_72 : decode cX12_agrees 72 = .ok (.ifCond .ne 44, 3) := by decide +kernel
theorem dX12_agrees_75 : decode cX12_agrees 75 = .ok (.aload_n 0, 1) := by decide +kernel
theorem dX12_agrees_76 : decode cX12_agrees 76 = .ok (.getfield 185, 3) := by decide +kernel
theorem dX12_agrees_79 : decode cX12_agrees 79 = .ok (.iload_n 2, 1) := by decide +kernel
theorem dX12_agrees_80 : decode cX12_agrees 80 = .ok (.iaload, 1) := by decide +kernel
theorem dX12_agrees_81 : decode cX12_agrees 81 = .ok (.iload_n 2, 1) := by decide +kernel
theorem dX12_agrees_82 : decode cX12_agrees 82 = .ok (.bipush 6, 2) := by decide +kernel
theorem dX12_agrees_84 : decode cX12_agrees 84 = .ok (.if_icmp .ge 12, 3) := by decide +kernel
theorem dX12_agrees_87 : decode cX12_agrees 87 = .ok (.aload_n 0, 1) := by decide +kernel
theorem dX12_agrees_88 : decode cX12_agrees 88 = .ok (.getfield 91, 3) := by decide +kernel
theorem dX12_agrees_91 : decode cX12_agrees 91 = .ok (.iload_n 2, 1) := by decide +kernel
theorem dX12_agrees_92 : decode cX12_agrees 92 = .ok (.iaload, 1) := by decide +kernel
theorem dX12_agrees_93 : decode cX12_agrees 93 = .ok (.goto 12, 3) := by decide +kernel
theorem dX12_agrees_96 : decode cX12_agrees 96 = .ok (.aload_n 0, 1) := by decide +kernel
theorem dX12_agrees_97 : decode cX12_agrees 97 = .ok (.getfield 94, 3) := by decide +kernel
theorem dX12_agrees_100 : decode cX12_agrees 100 = .ok (.iload_n 2, 1) := by decide +kernel
theorem dX12_agrees_101 : decode cX12_agrees 101 = .ok (.bipush 6, 2) := by decide +kernel
theorem dX12_agrees_103 : decode cX12_agrees 103 = .ok (.isub, 1) := by decide +kernel
theorem dX12_agrees_104 : decode cX12_agrees 104 = .ok (.iaload, 1) := by decide +kernel
theorem dX12_agrees_105 : decode cX12_agrees 105 = .ok (.if_icmp .eq 5, 3) := by decide +kernel
theorem dX12_agrees_108 : decode cX12_agrees 108 = .ok (.iconst 0, 1) := by decide +kernel
theorem dX12_agrees_109 : decode cX12_agrees 109 = .ok (.ireturn, 1) := by decide +kernel
theorem dX12_agrees_110 : decode cX12_agrees 110 = .ok (.iinc 2 1, 3) := by decide +kernel
theorem dX12_agrees_113 : decode cX12_agrees 113 = .ok (.goto (-48), 3) := by decide +kernel
theorem dX12_agrees_116 : decode cX12_agrees 116 = .ok (.iconst 1, 1) := by decide +kernel
theorem dX12_agrees_117 : decode cX12_agrees 117 = .ok (.ireturn, 1) := by decide +kernel
def fX12_agrees_105 (k65 : Int → Int → Int → V_ → Option (Int × V_)) (x0 x1 x2 s0 s1 : Int) (v : V_) : Option (Int × V_) :=
  if s0 = s1 then (
    lt_ (wr_ (x2 + 1)) fun y14 =>
    k65 x0 x1 y14 v)
  else (
    some (0, v))
def fX12_agrees_65 : Nat → Int → Int → Int → V_ → Option (Int × V_)
  | 0, _, _, _, _ => none
  | n + 1, x0, x1, x2, v =>
    if 14 ≤ x2 then (
      some (1, v))
    else (
      if x1 = 0 then (
        ck_ (0 ≤ x2 ∧ x2 < 14) (
        if 6 ≤ x2 then (
          ck_ (0 ≤ wr_ (x2 - 6) ∧ wr_ (x2 - 6) < 8) (
          fX12_agrees_105 (fX12_agrees_65 n) x0 x1 x2 (v (x0 + 56) x2) (v (x0 + 26) (wr_ (x2 - 6))) v))
        else (
          ck_ (0 ≤ x2 ∧ x2 < 12) (
          fX12_agrees_105 (fX12_agrees_65 n) x0 x1 x2 (v (x0 + 56) x2) (v (x0 + 25) x2) v))))
      else (
        some (1, v)))
def fX12_agrees_11 : Nat → Int → Int → Int → V_ → Option (Int × V_)
  | 0, _, _, _, _ => none
  | n + 1, x0, x1, x2, v =>
    if 14 ≤ x2 then (
      bd_ (fX12_runsFast x0 v) fun q4 =>
      if q4.1 = x1 then (
        fX12_agrees_65 fu_ x0 x1 0 q4.2)
      else (
        some (0, q4.2)))
    else (
      if 6 ≤ x2 then (
        ck_ (0 ≤ wr_ (x2 - 6) ∧ wr_ (x2 - 6) < 8) (
        ck_ (0 ≤ x2 ∧ x2 < 14) (
        lt_ (up_ v (x0 + 56) x2 (v (x0 + 26) (wr_ (x2 - 6)))) fun v22 =>
        lt_ (wr_ (x2 + 1)) fun y23 =>
        (fX12_agrees_11 n) x0 x1 y23 v22)))
      else (
        ck_ (0 ≤ x2 ∧ x2 < 12) (
        ck_ (0 ≤ x2 ∧ x2 < 14) (
        lt_ (up_ v (x0 + 56) x2 (v (x0 + 25) x2)) fun v27 =>
        lt_ (wr_ (x2 + 1)) fun y28 =>
        (fX12_agrees_11 n) x0 x1 y28 v27))))
def fX12_agrees (x0 : Int) (v : V_) : Option (Int × V_) :=
  bd_ (fX12_plansAll x0 v) fun q1 =>
  bd_ (fX12_runsSlow x0 q1.2) fun q2 =>
  fX12_agrees_11 fu_ x0 q2.1 0 q2.2
section
variable {E : En_} {p : Program} {l : Launch} {e : Env} {s : State} {m : MethodId} {args : Array Value} {below : List Frame} {meth : Method} {c : Code} {sz : Int}
theorem tX12_agrees_105 (C : MC_ E p s m c cX12_agrees 3 RX12) (hr : meth.sig.returnType = (some FieldType.int)) (hlk : meth.locks = false) (hC : Cl_ E.2.2.2.2.2 sz) {out : Int × V_} (k65 : Int → Int → Int → V_ → Option (Int × V_)) (H_65 : ∀ (x0 x1 x2 : Int) (v : V_), (E.2.2.2.2.2 x0 ∧ ty_ x0 = 12 ∧ ln_ x0 = 0) → k65 x0 x1 x2 v = some out → G_ E p l e (rm_ 6 143) s m args below meth c 3 sz (Q_ E below args s sz sz 0 out.1 out.2) 65 [(0, (2, x0)), (1, (0, x1)), (2, (0, x2))] [] v sz) (x0 x1 x2 s0 s1 : Int) (v : V_) (T0 : (E.2.2.2.2.2 x0 ∧ ty_ x0 = 12 ∧ ln_ x0 = 0)) (h : fX12_agrees_105 k65 x0 x1 x2 s0 s1 v = some out) : G_ E p l e (rm_ 6 143) s m args below meth c 3 sz (Q_ E below args s sz sz 0 out.1 out.2) 105 [(0, (2, x0)), (1, (0, x1)), (2, (0, x2))] [(0, s1), (0, s0)] v sz := by
  rw [fX12_agrees_105] at h
  refine g_icmp_eq C 110 dX12_agrees_105 rfl (fun c13 => ?_) (fun c13 => ?_)
  · replace h := if_t h c13
    obtain ⟨y14, ey14, h⟩ := lt_e h
    refine g_iincx C (ls' := [(2, (0, y14)), (0, (2, x0)), (1, (0, x1))]) ey14 dX12_agrees_110 2 rfl (by decide) (by decide) rfl ?_
    refine g_goto C 65 dX12_agrees_113 rfl ?_
    refine g_sub [1, 2, 0] rfl rfl ?_
    exact H_65 _ _ _ _ T0 h
  · replace h := if_f h c13
    refine g_iconst C (n := 0) dX12_agrees_108 (by decide) ?_
    cases h
    exact g_iret C dX12_agrees_109 hr hlk
theorem tX12_agrees_65 (C : MC_ E p s m c cX12_agrees 3 RX12) (hr : meth.sig.returnType = (some FieldType.int)) (hlk : meth.locks = false) (hC : Cl_ E.2.2.2.2.2 sz) {out : Int × V_} : ∀ (n : Nat) (x0 x1 x2 : Int) (v : V_), (E.2.2.2.2.2 x0 ∧ ty_ x0 = 12 ∧ ln_ x0 = 0) → fX12_agrees_65 n x0 x1 x2 v = some out → G_ E p l e (rm_ 6 143) s m args below meth c 3 sz (Q_ E below args s sz sz 0 out.1 out.2) 65 [(0, (2, x0)), (1, (0, x1)), (2, (0, x2))] [] v sz := by
  intro n
  induction n with
  | zero =>
    intro x0 x1 x2 v T0 h
    cases h
  | succ n H_65 =>
    intro x0 x1 x2 v T0 h
    rw [fX12_agrees_65] at h
    refine g_iload_n C (f := 2) dX12_agrees_65 2 rfl ?_
    refine g_bipush C (n := 14) dX12_agrees_66 (by decide) ?_
    refine g_icmp_ge C 116 dX12_agrees_68 rfl (fun c6 => ?_) (fun c6 => ?_)
    · replace h := if_t h c6
      refine g_iconst C (n := 1) dX12_agrees_116 (by decide) ?_
      cases h
      exact g_iret C dX12_agrees_117 hr hlk
    · replace h := if_f h c6
      refine g_iload_n C (f := 1) dX12_agrees_71 1 rfl ?_
      refine g_if_ne C 116 dX12_agrees_72 rfl (fun c7 => ?_) (fun c7 => ?_)
      · replace h := if_f h c7
        refine g_iconst C (n := 1) dX12_agrees_116 (by decide) ?_
        cases h
        exact g_iret C dX12_agrees_117 hr hlk
      · replace h := if_t h c7
        refine g_aload_n C (f := 0) dX12_agrees_75 0 rfl ?_
        have F8 := fX12_79 hC T0.1 T0.2.1
        refine g_getR C (k := 79) (o := 56) okX12 (by decide) kf_RX12_185 dX12_agrees_76 hC T0.1 T0.2.1 rfl rfl ?_
        refine g_iload_n C (f := 2) dX12_agrees_79 2 rfl ?_
        obtain ⟨c9, h⟩ := ck_e h
        refine g_iald C 14 dX12_agrees_80 (rg_ hC F8.1) F8.2.1 F8.2.2 c9 ?_
        refine g_iload_n C (f := 2) dX12_agrees_81 2 rfl ?_
        refine g_bipush C (n := 6) dX12_agrees_82 (by decide) ?_
        refine g_icmp_ge C 96 dX12_agrees_84 rfl (fun c10 => ?_) (fun c10 => ?_)
        · replace h := if_t h c10
          refine g_aload_n C (f := 0) dX12_agrees_96 0 rfl ?_
          have F11 := fX12_39 hC T0.1 T0.2.1
          refine g_getR C (k := 39) (o := 26) okX12 (by decide) kf_RX12_94 dX12_agrees_97 hC T0.1 T0.2.1 rfl rfl ?_
          refine g_iload_n C (f := 2) dX12_agrees_100 2 rfl ?_
          refine g_bipush C (n := 6) dX12_agrees_101 (by decide) ?_
          refine g_isub C dX12_agrees_103 ?_
          obtain ⟨c12, h⟩ := ck_e h
          refine g_iald C 8 dX12_agrees_104 (rg_ hC F11.1) F11.2.1 F11.2.2 c12 ?_
          refine g_sub [0, 1, 2] rfl rfl ?_
          exact tX12_agrees_105 C hr hlk hC _ H_65 _ _ _ _ _ _ T0 h
        · replace h := if_f h c10
          refine g_aload_n C (f := 0) dX12_agrees_87 0 rfl ?_
          have F15 := fX12_38 hC T0.1 T0.2.1
          refine g_getR C (k := 38) (o := 25) okX12 (by decide) kf_RX12_91 dX12_agrees_88 hC T0.1 T0.2.1 rfl rfl ?_
          refine g_iload_n C (f := 2) dX12_agrees_91 2 rfl ?_
          obtain ⟨c16, h⟩ := ck_e h
          refine g_iald C 12 dX12_agrees_92 (rg_ hC F15.1) F15.2.1 F15.2.2 c16 ?_
          refine g_goto C 105 dX12_agrees_93 rfl ?_
          refine g_sub [0, 1, 2] rfl rfl ?_
          exact tX12_agrees_105 C hr hlk hC _ H_65 _ _ _ _ _ _ T0 h
theorem tX12_agrees_11 (C : MC_ E p s m c cX12_agrees 3 RX12) (hr : meth.sig.returnType = (some FieldType.int)) (hlk : meth.locks = false) (hC : Cl_ E.2.2.2.2.2 sz) {out : Int × V_} : ∀ (n : Nat) (x0 x1 x2 : Int) (v : V_), (E.2.2.2.2.2 x0 ∧ ty_ x0 = 12 ∧ ln_ x0 = 0) → fX12_agrees_11 n x0 x1 x2 v = some out → G_ E p l e (rm_ 6 143) s m args below meth c 3 sz (Q_ E below args s sz sz 0 out.1 out.2) 11 [(0, (2, x0)), (1, (0, x1)), (2, (0, x2))] [] v sz := by
  intro n
  induction n with
  | zero =>
    intro x0 x1 x2 v T0 h
    cases h
  | succ n H_11 =>
    intro x0 x1 x2 v T0 h
    rw [fX12_agrees_11] at h
    refine g_iload_n C (f := 2) dX12_agrees_11 2 rfl ?_
    refine g_bipush C (n := 14) dX12_agrees_12 (by decide) ?_
    refine g_icmp_ge C 53 dX12_agrees_14 rfl (fun c3 => ?_) (fun c3 => ?_)
    · replace h := if_t h c3
      refine g_aload_n C (f := 0) dX12_agrees_53 0 rfl ?_
      obtain ⟨q4, eq4, h⟩ := bd_e h
      refine g_cV C [] (cX12_runsFast_ok l hC T0 eq4) okX12 T0.2.1 (rg_ hC T0.1) km_RX12_588 cv_X12_runsFast rfl (by decide) rfl rfl (Nat.le_of_ble_eq_true rfl) dX12_agrees_54 ?_
      refine g_iload_n C (f := 1) dX12_agrees_57 1 rfl ?_
      refine g_icmp_eq C 63 dX12_agrees_58 rfl (fun c5 => ?_) (fun c5 => ?_)
      · replace h := if_t h c5
        refine g_iconst C (n := 0) dX12_agrees_63 (by decide) ?_
        refine g_istore_n C (f := 2) (ls' := [(2, (0, 0)), (0, (2, x0)), (1, (0, x1))]) dX12_agrees_64 (by decide) rfl ?_
        refine g_sub [1, 2, 0] rfl rfl ?_
        exact tX12_agrees_65 C hr hlk hC _ _ _ _ _ T0 h
      · replace h := if_f h c5
        refine g_iconst C (n := 0) dX12_agrees_61 (by decide) ?_
        cases h
        exact g_iret C dX12_agrees_62 hr hlk
    · replace h := if_f h c3
      refine g_aload_n C (f := 0) dX12_agrees_17 0 rfl ?_
      have F17 := fX12_79 hC T0.1 T0.2.1
      refine g_getR C (k := 79) (o := 56) okX12 (by decide) kf_RX12_185 dX12_agrees_18 hC T0.1 T0.2.1 rfl rfl ?_
      refine g_iload_n C (f := 2) dX12_agrees_21 2 rfl ?_
      refine g_iload_n C (f := 2) dX12_agrees_22 2 rfl ?_
      refine g_bipush C (n := 6) dX12_agrees_23 (by decide) ?_
      refine g_icmp_ge C 37 dX12_agrees_25 rfl (fun c18 => ?_) (fun c18 => ?_)
      · replace h := if_t h c18
        refine g_aload_n C (f := 0) dX12_agrees_37 0 rfl ?_
        have F19 := fX12_39 hC T0.1 T0.2.1
        refine g_getR C (k := 39) (o := 26) okX12 (by decide) kf_RX12_94 dX12_agrees_38 hC T0.1 T0.2.1 rfl rfl ?_
        refine g_iload_n C (f := 2) dX12_agrees_41 2 rfl ?_
        refine g_bipush C (n := 6) dX12_agrees_42 (by decide) ?_
        refine g_isub C dX12_agrees_44 ?_
        obtain ⟨c20, h⟩ := ck_e h
        refine g_iald C 8 dX12_agrees_45 (rg_ hC F19.1) F19.2.1 F19.2.2 c20 ?_
        obtain ⟨c21, h⟩ := ck_e h
        obtain ⟨v22, ev22, h⟩ := lt_e h
        refine g_iast C 14 dX12_agrees_46 (rg_ hC F17.1) F17.2.1 F17.2.2 c21 v22 ev22 ?_
        obtain ⟨y23, ey23, h⟩ := lt_e h
        refine g_iincx C (ls' := [(2, (0, y23)), (0, (2, x0)), (1, (0, x1))]) ey23 dX12_agrees_47 2 rfl (by decide) (by decide) rfl ?_
        refine g_goto C 11 dX12_agrees_50 rfl ?_
        refine g_sub [1, 2, 0] rfl rfl ?_
        exact H_11 _ _ _ _ T0 h
      · replace h := if_f h c18
        refine g_aload_n C (f := 0) dX12_agrees_28 0 rfl ?_
        have F24 := fX12_38 hC T0.1 T0.2.1
        refine g_getR C (k := 38) (o := 25) okX12 (by decide) kf_RX12_91 dX12_agrees_29 hC T0.1 T0.2.1 rfl rfl ?_
        refine g_iload_n C (f := 2) dX12_agrees_32 2 rfl ?_
        obtain ⟨c25, h⟩ := ck_e h
        refine g_iald C 12 dX12_agrees_33 (rg_ hC F24.1) F24.2.1 F24.2.2 c25 ?_
        refine g_goto C 46 dX12_agrees_34 rfl ?_
        obtain ⟨c26, h⟩ := ck_e h
        obtain ⟨v27, ev27, h⟩ := lt_e h
        refine g_iast C 14 dX12_agrees_46 (rg_ hC F17.1) F17.2.1 F17.2.2 c26 v27 ev27 ?_
        obtain ⟨y28, ey28, h⟩ := lt_e h
        refine g_iincx C (ls' := [(2, (0, y28)), (0, (2, x0)), (1, (0, x1))]) ey28 dX12_agrees_47 2 rfl (by decide) (by decide) rfl ?_
        refine g_goto C 11 dX12_agrees_50 rfl ?_
        refine g_sub [1, 2, 0] rfl rfl ?_
        exact H_11 _ _ _ _ T0 h
end
theorem cX12_agrees_ok (l : Launch) {E : En_} {sz : Int} (hC : Cl_ E.2.2.2.2.2 sz) {x0 : Int} {v : V_} {out : Int × V_} (T0 : (E.2.2.2.2.2 x0 ∧ ty_ x0 = 12 ∧ ln_ x0 = 0)) (h : fX12_agrees x0 v = some out) : Met l yX12_agrees [.code yX12_agrees cX12_agrees 3 (some FieldType.int)] (rm_ 6 143) (Pc_ E sz v [(2, x0)]) (Qc_ E sz 0 out.1 out.2) 0 0 (fun q => E.1 < q) := by
  refine met_G0 RX12 (by decide +kernel) rfl (Nat.le_of_ble_eq_true rfl) ?_
  intro p e s m args below meth c C hr hlk
  rw [fX12_agrees] at h
  refine g_aload_n C (f := 0) dX12_agrees_0 0 rfl ?_
  obtain ⟨q1, eq1, h⟩ := bd_e h
  refine g_cV C [] (cX12_plansAll_ok l hC T0 eq1) okX12 T0.2.1 (rg_ hC T0.1) km_RX12_542 cv_X12_plansAll rfl (by decide) rfl rfl (Nat.le_of_ble_eq_true rfl) dX12_agrees_1 ?_
  refine g_aload_n C (f := 0) dX12_agrees_4 0 rfl ?_
  obtain ⟨q2, eq2, h⟩ := bd_e h
  refine g_cV C [] (cX12_runsSlow_ok l hC T0 eq2) okX12 T0.2.1 (rg_ hC T0.1) km_RX12_555 cv_X12_runsSlow rfl (by decide) rfl rfl (Nat.le_of_ble_eq_true rfl) dX12_agrees_5 ?_
  refine g_istore_n C (f := 1) (ls' := [(1, (0, q2.1)), (0, (2, x0))]) dX12_agrees_8 (by decide) rfl ?_
  refine g_iconst C (n := 0) dX12_agrees_9 (by decide) ?_
  refine g_istore_n C (f := 2) (ls' := [(2, (0, 0)), (1, (0, q2.1)), (0, (2, x0))]) dX12_agrees_10 (by decide) rfl ?_
  refine g_sub [2, 1, 0] rfl rfl ?_
  exact tX12_agrees_11 C hr hlk hC _ _ _ _ _ T0 h
