theorem dX10_findNeeds_0 : decode cX10_findNeeds 0 = .ok (.aload_n 0, 1) := by decide +kernel
theorem dX10_findNeeds_1 : decode cX10_findNeeds 1 = .ok (.getfield 30, 3) := by decide +kernel
theorem dX10_findNeeds_4 : decode cX10_findNeeds 4 = .ok (.iconst (-1), 1) := by decide +kernel
theorem dX10_findNeeds_5 : decode cX10_findNeeds 5 = .ok (.invokestatic 120, 3) := by decide +kernel
theorem dX10_findNeeds_8 : decode cX10_findNeeds 8 = .ok (.aload_n 0, 1) := by decide +kernel
theorem dX10_findNeeds_9 : decode cX10_findNeeds 9 = .ok (.iconst 0, 1) := by decide +kernel
theorem dX10_findNeeds_10 : decode cX10_findNeeds 10 = .ok (.putfield 126, 3) := by decide +kernel
theorem dX10_findNeeds_13 : decode cX10_findNeeds 13 = .ok (.iconst 0, 1) := by decide +kernel
theorem dX10_findNeeds_14 : decode cX10_findNeeds 14 = .ok (.istore_n 3, 1) := by decide +kernel
theorem dX10_findNeeds_15 : decode cX10_findNeeds 15 = .ok (.iload_n 3, 1) := by decide +kernel
theorem dX10_findNeeds_16 : decode cX10_findNeeds 16 = .ok (.aload_n 0, 1) := by decide +kernel
theorem dX10_findNeeds_17 : decode cX10_findNeeds 17 = .ok (.getfield 38, 3) := by decide +kernel
theorem dX10_findNeeds_20 : decode cX10_findNeeds 20 = .ok (.if_icmp .ge 152, 3) := by decide +kernel
theorem dX10_findNeeds_23 : decode cX10_findNeeds 23 = .ok (.aload_n 0, 1) := by decide +kernel
theorem dX10_findNeeds_24 : decode cX10_findNeeds 24 = .ok (.getfield 17, 3) := by decide +kernel
theorem dX10_findNeeds_27 : decode cX10_findNeeds 27 = .ok (.iload_n 3, 1) := by decide +kernel
theorem dX10_findNeeds_28 : decode cX10_findNeeds 28 = .ok (.aaload, 1) := by decide +kernel
theorem dX10_findNeeds_29 : decode cX10_findNeeds 29 = .ok (.astore 4, 2) := by decide +kernel
theorem dX10_findNeeds_31 : decode cX10_findNeeds 31 = .ok (.aload 4, 2) := by decide +kernel
theorem dX10_findNeeds_33 : decode cX10_findNeeds 33 = .ok (.aload_n 2, 1) := by decide +kernel
theorem dX10_findNeeds_34 : decode cX10_findNeeds 34 = .ok (.aload 4, 2) := by decide +kernel
theorem dX10_findNeeds_36 : decode cX10_findNeeds 36 = .ok (.getfield 83, 3) := by decide +kernel
theorem dX10_findNeeds_39 : decode cX10_findNeeds 39 = .ok (.invokevirtual 129, 3) := by decide +kernel
theorem dX10_findNeeds_42 : decode cX10_findNeeds 42 = .ok (.invokevirtual 133, 3) := by decide +kernel
theorem dX10_findNeeds_45 : decode cX10_findNeeds 45 = .ok (.putfield 138, 3) := by decide +kernel
theorem dX10_findNeeds_48 : decode cX10_findNeeds 48 = .ok (.aload_n 0, 1) := by decide +kernel
theorem dX10_findNeeds_49 : decode cX10_findNeeds 49 = .ok (.dup, 1) := by decide +kernel
theorem dX10_findNeeds_50 : decode cX10_findNeeds 50 = .ok (.getfield 126, 3) := by decide +kernel
theorem dX10_findNeeds_53 : decode cX10_findNeeds 53 = .ok (.aload 4, 2) := by decide +kernel
theorem dX10_findNeeds_55 : decode cX10_findNeeds 55 = .ok (.getfield 141, 3) := by decide +kernel
theorem dX10_findNeeds_58 : decode cX10_findNeeds 58 = .ok (.iconst 1, 1) := by decide +kernel
theorem dX10_findNeeds_59 : decode cX10_findNeeds 59 = .ok (.if_icmp .ne 7, 3) := by decide +kernel
theorem dX10_findNeeds_62 : decode cX10_findNeeds 62 = .ok (.iconst 0, 1) := by decide +kernel
theorem dX10_findNeeds_63 : decode cX10_findNeeds 63 = .ok (.goto 8, 3) := by decide +kernel
theorem dX10_findNeeds_66 : decode cX10_findNeeds 66 = .ok (.aload 4, 2) := by decide +kernel
theorem dX10_findNeeds_68 : decode cX10_findNeeds 68 = .ok (.getfield 138, 3) := by decide +kernel
theorem dX10_findNeeds_71 : decode cX10_findNeeds 71 = .ok (.iadd, 1) := by decide +kernel
theorem dX10_findNeeds_72 : decode cX10_findNeeds 72 = .ok (.putfield 126, 3) := by decide +kernel
theorem dX10_findNeeds_75 : decode cX10_findNeeds 75 = .ok (.iconst 0, 1) := by decide +kernel
theorem dX10_findNeeds_76 : decode cX10_findNeeds 76 = .ok (.istore 5, 2) := by decide +kernel
theorem dX10_findNeeds_78 : decode cX10_findNeeds 78 = .ok (.iload 5, 2) := by decide +kernel
theorem dX10_findNeeds_80 : decode cX10_findNeeds 80 = .ok (.iload_n 3, 1) := by decide +kernel
theorem dX10_findNeeds_81 : decode cX10_findNeeds 81 = .ok (.if_icmp .ge 34, 3) := by decide +kernel
theorem dX10_findNeeds_84 : decode cX10_findNeeds 84 = .ok (.aload_n 0, 1) := by decide +kernel
theorem dX10_findNeeds_85 : decode cX10_findNeeds 85 = .ok (.getfield 24, 3) := by decide +kernel
theorem dX10_findNeeds_88 : decode cX10_findNeeds 88 = .ok (.iload 5, 2) := by decide +kernel
theorem dX10_findNeeds_90 : decode cX10_findNeeds 90 = .ok (.bipush 34, 2) := by decide +kernel
theorem dX10_findNeeds_92 : decode cX10_findNeeds 92 = .ok (.imul, 1) := by decide +kernel
theorem dX10_findNeeds_93 : decode cX10_findNeeds 93 = .ok (.iload_n 3, 1) := by decide +kernel
theorem dX10_findNeeds_94 : decode cX10_findNeeds 94 = .ok (.iadd, 1) := by decide +kernel
theorem dX10_findNeeds_95 : decode cX10_findNeeds 95 = .ok (.aload_n 0, 1) := by decide +kernel
theorem dX10_findNeeds_96 : decode cX10_findNeeds 96 = .ok (.getfield 17, 3) := by decide +kernel
theorem dX10_findNeeds_99 : decode cX10_findNeeds 99 = .ok (.iload 5, 2) := by decide +kernel
theorem dX10_findNeeds_101 : decode cX10_findNeeds 101 = .ok (.aaload, 1) := by decide +kernel
theorem dX10_findNeeds_102 : decode cX10_findNeeds 102 = .ok (.aload 4, 2) := by decide +kernel
theorem dX10_findNeeds_104 : decode cX10_findNeeds 104 = .ok (.aload_n 1, 1) := by decide +kernel
theorem dX10_findNeeds_105 : decode cX10_findNeeds 105 = .ok (.invokestatic 144, 3) := by decide +kernel
theorem dX10_findNeeds_108 : decode cX10_findNeeds 108 = .ok (.iastore, 1) := by decide +kernel
theorem dX10_findNeeds_109 : decode cX10_findNeeds 109 = .ok (.iinc 5 1, 3) := by decide +kernel
theorem dX10_findNeeds_112 : decode cX10_findNeeds 112 = .ok (.goto (-34), 3) := by decide +kernel
theorem dX10_findNeeds_115 : decode cX10_findNeeds 115 = .ok (.aload_n 0, 1) := by decide +kernel
theorem dX10_findNeeds_116 : decode cX10_findNeeds 116 = .ok (.aload 4, 2) := by decide +kernel
theorem dX10_findNeeds_118 : decode cX10_findNeeds 118 = .ok (.getfield 83, 3) := by decide +kernel
theorem dX10_findNeeds_121 : decode cX10_findNeeds 121 = .ok (.getfield 90, 3) := by decide +kernel
theorem dX10_findNeeds_124 : decode cX10_findNeeds 124 = .ok (.iload_n 3, 1) := by decide +kernel
theorem dX10_findNeeds_125 : decode cX10_findNeeds 125 = .ok (.invokevirtual 148, 3) := by decide +kernel
theorem dX10_findNeeds_128 : decode cX10_findNeeds 128 = .ok (.aload_n 0, 1) := by decide +kernel
theorem dX10_findNeeds_129 : decode cX10_findNeeds 129 = .ok (.aload 4, 2) := by decide +kernel
theorem dX10_findNeeds_131 : decode cX10_findNeeds 131 = .ok (.getfield 83, 3) := by decide +kernel
theorem dX10_findNeeds_134 : decode cX10_findNeeds 134 = .ok (.getfield 97, 3) := by decide +kernel
theorem dX10_findNeeds_137 : decode cX10_findNeeds 137 = .ok (.iload_n 3, 1) := by decide +kernel
theorem dX10_findNeeds_138 : decode cX10_findNeeds 138 = .ok (.invokevirtual 148, 3) := by decide +kernel
theorem dX10_findNeeds_141 : decode cX10_findNeeds 141 = .ok (.aload 4, 2) := by decide +kernel
theorem dX10_findNeeds_143 : decode cX10_findNeeds 143 = .ok (.getfield 83, 3) := by decide +kernel
theorem dX10_findNeeds_146 : decode cX10_findNeeds 146 = .ok (.getfield 78, 3) := by decide +kernel
theorem dX10_findNeeds_149 : decode cX10_findNeeds 149 = .ok (.ifCond .lt 17, 3) := by decide +kernel
theorem dX10_findNeeds_152 : decode cX10_findNeeds 152 = .ok (.aload_n 0, 1) := by decide +kernel
theorem dX10_findNeeds_153 : decode cX10_findNeeds 153 = .ok (.getfield 30, 3) := by decide +kernel
theorem dX10_findNeeds_156 : decode cX10_findNeeds 156 = .ok (.aload 4, 2) := by decide +kernel
theorem dX10_findNeeds_158 : decode cX10_findNeeds 158 = .ok (.getfield 83, 3) := by decide +kernel
theorem dX10_findNeeds_161 : decode cX10_findNeeds 161 = .ok (.getfield 78, 3) := by decide +kernel
theorem dX10_findNeeds_164 : decode cX10_findNeeds 164 = .ok (.iload_n 3, 1) := by decide +kernel
theorem dX10_findNeeds_165 : decode cX10_findNeeds 165 = .ok (.iastore, 1) := by decide +kernel
theorem dX10_findNeeds_166 : decode cX10_findNeeds 166 = .ok (.iinc 3 1, 3) := by decide +kernel
theorem dX10_findNeeds_169 : decode cX10_findNeeds 169 = .ok (.goto (-154), 3) := by decide +kernel
theorem dX10_findNeeds_172 : decode cX10_findNeeds 172 = .ok (.aload_n 0, 1) := by decide +kernel
theorem dX10_findNeeds_173 : decode cX10_findNeeds 173 = .ok (.invokevirtual 152, 3) := by decide +kernel
theorem dX10_findNeeds_176 : decode cX10_findNeeds 176 = .ok (.return_, 1) := by decide +kernel
def fX10_findNeeds_78 (k15 : Int → Int → Int → Int → V_ → Option (Int × V_)) : Nat → Int → Int → Int → Int → Int → Int → V_ → Option (Int × V_)
  | 0, _, _, _, _, _, _, _ => none
  | n + 1, x0, x1, x2, x3, x4, x5, v =>
    if x3 ≤ x5 then (
      bd_ (fX10_needWhatSet x0 (v (x4 + 1) 2) x3 v) fun q19 =>
      bd_ (fX10_needWhatSet x0 (q19.2 (x4 + 1) 3) x3 q19.2) fun q21 =>
      if (q21.2 (x4 + 1) 1) < 0 then (
        lt_ (wr_ (x3 + 1)) fun y24 =>
        k15 x0 x1 x2 y24 q21.2)
      else (
        ck_ (0 ≤ q21.2 (x4 + 1) 1 ∧ q21.2 (x4 + 1) 1 < 12) (
        lt_ (up_ q21.2 (x0 + 6) (q21.2 (x4 + 1) 1) x3) fun v28 =>
        lt_ (wr_ (x3 + 1)) fun y29 =>
        k15 x0 x1 x2 y29 v28)))
    else (
      ck_ (0 ≤ x5 ∧ x5 < 34) (
      bd_ (fX10_needOfOrder ((x0 + 2) + (5 + 2 * x5)) x4 x1 v) fun q34 =>
      ck_ (0 ≤ wr_ ((wr_ (x5 * 34)) + x3) ∧ wr_ ((wr_ (x5 * 34)) + x3) < 1156) (
      lt_ (up_ q34.2 (x0 + 4) (wr_ ((wr_ (x5 * 34)) + x3)) q34.1) fun v36 =>
      lt_ (wr_ (x5 + 1)) fun y37 =>
      (fX10_findNeeds_78 k15 n) x0 x1 x2 x3 x4 y37 v36)))
def fX10_findNeeds_71 (k15 : Int → Int → Int → Int → V_ → Option (Int × V_)) (x0 x1 x2 x3 x4 s0 s1 s2 : Int) (v : V_) : Option (Int × V_) :=
  lt_ (up_ v s0 6 (wr_ (s1 + s2))) fun v16 =>
  fX10_findNeeds_78 k15 fu_ x0 x1 x2 x3 x4 0 v16
def fX10_findNeeds_15 : Nat → Int → Int → Int → Int → V_ → Option (Int × V_)
  | 0, _, _, _, _, _ => none
  | n + 1, x0, x1, x2, x3, v =>
    if (v x0 3) ≤ x3 then (
      bd_ (fX10_findHeights x0 v) fun q5 =>
      some (0, q5.2))
    else (
      ck_ (0 ≤ x3 ∧ x3 < 34) (
      lt_ ((x0 + 2) + (5 + 2 * x3)) fun y9 =>
      bd_ (fX8_kindOf (y9 + 1) v) fun q12 =>
      bd_ (fX7_latencyOf x2 q12.1 q12.2) fun q13 =>
      lt_ (up_ q13.2 y9 3 q13.1) fun v14 =>
      if (v14 y9 1) = 1 then (
        fX10_findNeeds_71 (fX10_findNeeds_15 n) x0 x1 x2 x3 y9 x0 (v14 x0 6) 0 v14)
      else (
        fX10_findNeeds_71 (fX10_findNeeds_15 n) x0 x1 x2 x3 y9 x0 (v14 x0 6) (v14 y9 3) v14)))
def fX10_findNeeds (x0 x1 x2 : Int) (v : V_) : Option (Int × V_) :=
  lt_ (fl_ v (x0 + 6) 12 (-1)) fun v2 =>
  lt_ (up_ v2 x0 6 0) fun v3 =>
  fX10_findNeeds_15 fu_ x0 x1 x2 0 v3
section
variable {E : En_} {p : Program} {l : Launch} {e : Env} {s : State} {m : MethodId} {args : Array Value} {below : List Frame} {meth : Method} {c : Code} {sz : Int}
theorem tX10_findNeeds_78 (C : MC_ E p s m c cX10_findNeeds 6 RX10) (hr : meth.sig.returnType = (none : Option FieldType)) (hlk : meth.locks = false) (hC : Cl_ E.2.2.2.2.2 sz) {out : Int × V_} (k15 : Int → Int → Int → Int → V_ → Option (Int × V_)) (H_15 : ∀ (x0 x1 x2 x3 : Int) (v : V_), (E.2.2.2.2.2 x0 ∧ ty_ x0 = 10 ∧ ln_ x0 = 0) → (E.2.2.2.2.2 x1 ∧ ty_ x1 = 5 ∧ ln_ x1 = 0) → (E.2.2.2.2.2 x2 ∧ ty_ x2 = 7 ∧ ln_ x2 = 0) → k15 x0 x1 x2 x3 v = some out → G_ E p l e (rm_ 3 69) s m args below meth c 6 sz (Q_ E below args s sz sz 9 out.1 out.2) 15 [(0, (2, x0)), (1, (2, x1)), (2, (2, x2)), (3, (0, x3))] [] v sz) : ∀ (n : Nat) (x0 x1 x2 x3 x4 x5 : Int) (v : V_), (E.2.2.2.2.2 x0 ∧ ty_ x0 = 10 ∧ ln_ x0 = 0) → (E.2.2.2.2.2 x1 ∧ ty_ x1 = 5 ∧ ln_ x1 = 0) → (E.2.2.2.2.2 x2 ∧ ty_ x2 = 7 ∧ ln_ x2 = 0) → (E.2.2.2.2.2 x4 ∧ ty_ x4 = 1 ∧ ln_ x4 = 0) → fX10_findNeeds_78 k15 n x0 x1 x2 x3 x4 x5 v = some out → G_ E p l e (rm_ 3 69) s m args below meth c 6 sz (Q_ E below args s sz sz 9 out.1 out.2) 78 [(0, (2, x0)), (1, (2, x1)), (2, (2, x2)), (3, (0, x3)), (4, (2, x4)), (5, (0, x5))] [] v sz := by
  intro n
  induction n with
  | zero =>
    intro x0 x1 x2 x3 x4 x5 v T0 T1 T2 T4 h
    cases h
  | succ n H_78 =>
    intro x0 x1 x2 x3 x4 x5 v T0 T1 T2 T4 h
    rw [fX10_findNeeds_78] at h
    refine g_iload C (i := 5) dX10_findNeeds_78 5 rfl ?_
    refine g_iload_n C (f := 3) dX10_findNeeds_80 3 rfl ?_
    refine g_icmp_ge C 115 dX10_findNeeds_81 rfl (fun c17 => ?_) (fun c17 => ?_)
    · replace h := if_t h c17
      refine g_aload_n C (f := 0) dX10_findNeeds_115 0 rfl ?_
      refine g_aload C (i := 4) dX10_findNeeds_116 4 rfl ?_
      have F18 := fX1_0 hC T4.1 T4.2.1
      refine g_getR C (k := 0) (o := 1) okX1 (by decide) kf_RX10_83 dX10_findNeeds_118 hC T4.1 T4.2.1 rfl rfl ?_
      refine g_getf C (k := 2) (kd := 0) okX8 (by decide) kf_RX10_90 dX10_findNeeds_121 (rg_ hC F18.1) F18.2.1 rfl ?_
      refine g_iload_n C (f := 3) dX10_findNeeds_124 3 rfl ?_
      obtain ⟨q19, eq19, h⟩ := bd_e h
      refine g_cV C [(0, v (x4 + 1) 2), (0, x3)] (cX10_needWhatSet_ok l hC T0 eq19) okX10 T0.2.1 (rg_ hC T0.1) km_RX10_148 cv_X10_needWhatSet rfl (by decide) rfl rfl (Nat.le_of_ble_eq_true rfl) dX10_findNeeds_125 ?_
      refine g_aload_n C (f := 0) dX10_findNeeds_128 0 rfl ?_
      refine g_aload C (i := 4) dX10_findNeeds_129 4 rfl ?_
      have F20 := fX1_0 hC T4.1 T4.2.1
      refine g_getR C (k := 0) (o := 1) okX1 (by decide) kf_RX10_83 dX10_findNeeds_131 hC T4.1 T4.2.1 rfl rfl ?_
      refine g_getf C (k := 3) (kd := 0) okX8 (by decide) kf_RX10_97 dX10_findNeeds_134 (rg_ hC F20.1) F20.2.1 rfl ?_
      refine g_iload_n C (f := 3) dX10_findNeeds_137 3 rfl ?_
      obtain ⟨q21, eq21, h⟩ := bd_e h
      refine g_cV C [(0, q19.2 (x4 + 1) 3), (0, x3)] (cX10_needWhatSet_ok l hC T0 eq21) okX10 T0.2.1 (rg_ hC T0.1) km_RX10_148 cv_X10_needWhatSet rfl (by decide) rfl rfl (Nat.le_of_ble_eq_true rfl) dX10_findNeeds_138 ?_
      refine g_aload C (i := 4) dX10_findNeeds_141 4 rfl ?_
      have F22 := fX1_0 hC T4.1 T4.2.1
      refine g_getR C (k := 0) (o := 1) okX1 (by decide) kf_RX10_83 dX10_findNeeds_143 hC T4.1 T4.2.1 rfl rfl ?_
      refine g_getf C (k := 1) (kd := 0) okX8 (by decide) kf_RX10_78 dX10_findNeeds_146 (rg_ hC F22.1) F22.2.1 rfl ?_
      refine g_if_lt C 166 dX10_findNeeds_149 rfl (fun c23 => ?_) (fun c23 => ?_)
      · replace h := if_t h c23
        obtain ⟨y24, ey24, h⟩ := lt_e h
        refine g_iincx C (ls' := [(3, (0, y24)), (0, (2, x0)), (1, (2, x1)), (2, (2, x2)), (4, (2, x4)), (5, (0, x5))]) ey24 dX10_findNeeds_166 3 rfl (by decide) (by decide) rfl ?_
        refine g_goto C 15 dX10_findNeeds_169 rfl ?_
        refine g_sub [1, 2, 3, 0] rfl rfl ?_
        exact H_15 _ _ _ _ _ T0 T1 T2 h
      · replace h := if_f h c23
        refine g_aload_n C (f := 0) dX10_findNeeds_152 0 rfl ?_
        have F25 := fX10_15 hC T0.1 T0.2.1
        refine g_getR C (k := 15) (o := 6) okX10 (by decide) kf_RX10_30 dX10_findNeeds_153 hC T0.1 T0.2.1 rfl rfl ?_
        refine g_aload C (i := 4) dX10_findNeeds_156 4 rfl ?_
        have F26 := fX1_0 hC T4.1 T4.2.1
        refine g_getR C (k := 0) (o := 1) okX1 (by decide) kf_RX10_83 dX10_findNeeds_158 hC T4.1 T4.2.1 rfl rfl ?_
        refine g_getf C (k := 1) (kd := 0) okX8 (by decide) kf_RX10_78 dX10_findNeeds_161 (rg_ hC F26.1) F26.2.1 rfl ?_
        refine g_iload_n C (f := 3) dX10_findNeeds_164 3 rfl ?_
        obtain ⟨c27, h⟩ := ck_e h
        obtain ⟨v28, ev28, h⟩ := lt_e h
        refine g_iast C 12 dX10_findNeeds_165 (rg_ hC F25.1) F25.2.1 F25.2.2 c27 v28 ev28 ?_
        obtain ⟨y29, ey29, h⟩ := lt_e h
        refine g_iincx C (ls' := [(3, (0, y29)), (0, (2, x0)), (1, (2, x1)), (2, (2, x2)), (4, (2, x4)), (5, (0, x5))]) ey29 dX10_findNeeds_166 3 rfl (by decide) (by decide) rfl ?_
        refine g_goto C 15 dX10_findNeeds_169 rfl ?_
        refine g_sub [1, 2, 3, 0] rfl rfl ?_
        exact H_15 _ _ _ _ _ T0 T1 T2 h
    · replace h := if_f h c17
      refine g_aload_n C (f := 0) dX10_findNeeds_84 0 rfl ?_
      have F30 := fX10_13 hC T0.1 T0.2.1
      refine g_getR C (k := 13) (o := 4) okX10 (by decide) kf_RX10_24 dX10_findNeeds_85 hC T0.1 T0.2.1 rfl rfl ?_
      refine g_iload C (i := 5) dX10_findNeeds_88 5 rfl ?_
      refine g_bipush C (n := 34) dX10_findNeeds_90 (by decide) ?_
      refine g_imul C dX10_findNeeds_92 ?_
      refine g_iload_n C (f := 3) dX10_findNeeds_93 3 rfl ?_
      refine g_iadd C dX10_findNeeds_94 ?_
      refine g_aload_n C (f := 0) dX10_findNeeds_95 0 rfl ?_
      have F31 := fX10_2 hC T0.1 T0.2.1
      refine g_getR C (k := 2) (o := 2) okX10 (by decide) kf_RX10_17 dX10_findNeeds_96 hC T0.1 T0.2.1 rfl rfl ?_
      refine g_iload C (i := 5) dX10_findNeeds_99 5 rfl ?_
      obtain ⟨c32, h⟩ := ck_e h
      have F33 := fE_items (i := x5) hC F31.1 F31.2.1 F31.2.2 c32
      refine g_aald C 26 34 5 2 dX10_findNeeds_101 hC F31.1 F31.2.1 F31.2.2 c32 (by decide) oA_items ?_
      refine g_aload C (i := 4) dX10_findNeeds_102 4 rfl ?_
      refine g_aload_n C (f := 1) dX10_findNeeds_104 1 rfl ?_
      obtain ⟨q34, eq34, h⟩ := bd_e h
      refine g_cS C [(2, (x0 + 2) + (5 + 2 * x5)), (2, x4), (2, x1)] (cX10_needOfOrder_ok l hC F33 T4 T1 eq34) km_RX10_144 cs_X10_needOfOrder rfl (by decide) rfl rfl (Nat.le_of_ble_eq_true rfl) dX10_findNeeds_105 ?_
      obtain ⟨c35, h⟩ := ck_e h
      obtain ⟨v36, ev36, h⟩ := lt_e h
      refine g_iast C 1156 dX10_findNeeds_108 (rg_ hC F30.1) F30.2.1 F30.2.2 c35 v36 ev36 ?_
      obtain ⟨y37, ey37, h⟩ := lt_e h
      refine g_iincx C (ls' := [(5, (0, y37)), (0, (2, x0)), (1, (2, x1)), (2, (2, x2)), (3, (0, x3)), (4, (2, x4))]) ey37 dX10_findNeeds_109 5 rfl (by decide) (by decide) rfl ?_
      refine g_goto C 78 dX10_findNeeds_112 rfl ?_
      refine g_sub [1, 2, 3, 4, 5, 0] rfl rfl ?_
      exact H_78 _ _ _ _ _ _ _ T0 T1 T2 T4 h
theorem tX10_findNeeds_71 (C : MC_ E p s m c cX10_findNeeds 6 RX10) (hr : meth.sig.returnType = (none : Option FieldType)) (hlk : meth.locks = false) (hC : Cl_ E.2.2.2.2.2 sz) {out : Int × V_} (k15 : Int → Int → Int → Int → V_ → Option (Int × V_)) (H_15 : ∀ (x0 x1 x2 x3 : Int) (v : V_), (E.2.2.2.2.2 x0 ∧ ty_ x0 = 10 ∧ ln_ x0 = 0) → (E.2.2.2.2.2 x1 ∧ ty_ x1 = 5 ∧ ln_ x1 = 0) → (E.2.2.2.2.2 x2 ∧ ty_ x2 = 7 ∧ ln_ x2 = 0) → k15 x0 x1 x2 x3 v = some out → G_ E p l e (rm_ 3 69) s m args below meth c 6 sz (Q_ E below args s sz sz 9 out.1 out.2) 15 [(0, (2, x0)), (1, (2, x1)), (2, (2, x2)), (3, (0, x3))] [] v sz) (x0 x1 x2 x3 x4 s0 s1 s2 : Int) (v : V_) (T0 : (E.2.2.2.2.2 x0 ∧ ty_ x0 = 10 ∧ ln_ x0 = 0)) (T1 : (E.2.2.2.2.2 x1 ∧ ty_ x1 = 5 ∧ ln_ x1 = 0)) (T2 : (E.2.2.2.2.2 x2 ∧ ty_ x2 = 7 ∧ ln_ x2 = 0)) (T4 : (E.2.2.2.2.2 x4 ∧ ty_ x4 = 1 ∧ ln_ x4 = 0)) (S0 : (E.2.2.2.2.2 s0 ∧ ty_ s0 = 10 ∧ ln_ s0 = 0)) (h : fX10_findNeeds_71 k15 x0 x1 x2 x3 x4 s0 s1 s2 v = some out) : G_ E p l e (rm_ 3 69) s m args below meth c 6 sz (Q_ E below args s sz sz 9 out.1 out.2) 71 [(0, (2, x0)), (1, (2, x1)), (2, (2, x2)), (3, (0, x3)), (4, (2, x4))] [(0, s2), (0, s1), (2, s0)] v sz := by
  rw [fX10_findNeeds_71] at h
  refine g_iadd C dX10_findNeeds_71 ?_
  obtain ⟨v16, ev16, h⟩ := lt_e h
  refine g_putf C (k := 6) (kd := 0) okX10 (by decide) kf_RX10_126 dX10_findNeeds_72 (rg_ hC S0.1) S0.2.1 rfl rfl nvI (Or.inl rfl) v16 ev16 ?_
  refine g_iconst C (n := 0) dX10_findNeeds_75 (by decide) ?_
  refine g_istore C (i := 5) (ls' := [(5, (0, 0)), (0, (2, x0)), (1, (2, x1)), (2, (2, x2)), (3, (0, x3)), (4, (2, x4))]) dX10_findNeeds_76 (by decide) rfl ?_
  refine g_sub [1, 2, 3, 4, 5, 0] rfl rfl ?_
  exact tX10_findNeeds_78 C hr hlk hC _ H_15 _ _ _ _ _ _ _ _ T0 T1 T2 T4 h
theorem tX10_findNeeds_15 (C : MC_ E p s m c cX10_findNeeds 6 RX10) (hr : meth.sig.returnType = (none : Option FieldType)) (hlk : meth.locks = false) (hC : Cl_ E.2.2.2.2.2 sz) {out : Int × V_} : ∀ (n : Nat) (x0 x1 x2 x3 : Int) (v : V_), (E.2.2.2.2.2 x0 ∧ ty_ x0 = 10 ∧ ln_ x0 = 0) → (E.2.2.2.2.2 x1 ∧ ty_ x1 = 5 ∧ ln_ x1 = 0) → (E.2.2.2.2.2 x2 ∧ ty_ x2 = 7 ∧ ln_ x2 = 0) → fX10_findNeeds_15 n x0 x1 x2 x3 v = some out → G_ E p l e (rm_ 3 69) s m args below meth c 6 sz (Q_ E below args s sz sz 9 out.1 out.2) 15 [(0, (2, x0)), (1, (2, x1)), (2, (2, x2)), (3, (0, x3))] [] v sz := by
  intro n
  induction n with
  | zero =>
    intro x0 x1 x2 x3 v T0 T1 T2 h
    cases h
  | succ n H_15 =>
    intro x0 x1 x2 x3 v T0 T1 T2 h
    rw [fX10_findNeeds_15] at h
    refine g_iload_n C (f := 3) dX10_findNeeds_15 3 rfl ?_
    refine g_aload_n C (f := 0) dX10_findNeeds_16 0 rfl ?_
    refine g_getf C (k := 3) (kd := 0) okX10 (by decide) kf_RX10_38 dX10_findNeeds_17 (rg_ hC T0.1) T0.2.1 rfl ?_
    refine g_icmp_ge C 172 dX10_findNeeds_20 rfl (fun c4 => ?_) (fun c4 => ?_)
    · replace h := if_t h c4
      refine g_aload_n C (f := 0) dX10_findNeeds_172 0 rfl ?_
      obtain ⟨q5, eq5, h⟩ := bd_e h
      refine g_cV C [] (cX10_findHeights_ok l hC T0 eq5) okX10 T0.2.1 (rg_ hC T0.1) km_RX10_152 cv_X10_findHeights rfl (by decide) rfl rfl (Nat.le_of_ble_eq_true rfl) dX10_findNeeds_173 ?_
      cases h
      exact g_vret C dX10_findNeeds_176 hr hlk
    · replace h := if_f h c4
      refine g_aload_n C (f := 0) dX10_findNeeds_23 0 rfl ?_
      have F6 := fX10_2 hC T0.1 T0.2.1
      refine g_getR C (k := 2) (o := 2) okX10 (by decide) kf_RX10_17 dX10_findNeeds_24 hC T0.1 T0.2.1 rfl rfl ?_
      refine g_iload_n C (f := 3) dX10_findNeeds_27 3 rfl ?_
      obtain ⟨c7, h⟩ := ck_e h
      have F8 := fE_items (i := x3) hC F6.1 F6.2.1 F6.2.2 c7
      refine g_aald C 26 34 5 2 dX10_findNeeds_28 hC F6.1 F6.2.1 F6.2.2 c7 (by decide) oA_items ?_
      obtain ⟨y9, ey9, h⟩ := lt_e h
      refine g_set C ey9 ?_
      have F10 : (E.2.2.2.2.2 y9 ∧ ty_ y9 = 1 ∧ ln_ y9 = 0) := by rw [ey9]; exact F8
      refine g_astore C (i := 4) (ls' := [(4, (2, y9)), (0, (2, x0)), (1, (2, x1)), (2, (2, x2)), (3, (0, x3))]) dX10_findNeeds_29 (by decide) rfl ?_
      refine g_aload C (i := 4) dX10_findNeeds_31 0 rfl ?_
      refine g_aload_n C (f := 2) dX10_findNeeds_33 3 rfl ?_
      refine g_aload C (i := 4) dX10_findNeeds_34 0 rfl ?_
      have F11 := fX1_0 hC F10.1 F10.2.1
      refine g_getR C (k := 0) (o := 1) okX1 (by decide) kf_RX10_83 dX10_findNeeds_36 hC F10.1 F10.2.1 rfl rfl ?_
      obtain ⟨q12, eq12, h⟩ := bd_e h
      refine g_cV C [] (cX8_kindOf_ok l hC F11 eq12) okX8 F11.2.1 (rg_ hC F11.1) km_RX10_129 cv_X8_kindOf rfl (by decide) rfl rfl (Nat.le_of_ble_eq_true rfl) dX10_findNeeds_39 ?_
      obtain ⟨q13, eq13, h⟩ := bd_e h
      refine g_cV C [(0, q12.1)] (cX7_latencyOf_ok l hC T2 eq13) okX7 T2.2.1 (rg_ hC T2.1) km_RX10_133 cv_X7_latencyOf rfl (by decide) rfl rfl (Nat.le_of_ble_eq_true rfl) dX10_findNeeds_42 ?_
      obtain ⟨v14, ev14, h⟩ := lt_e h
      refine g_putf C (k := 3) (kd := 0) okX1 (by decide) kf_RX10_138 dX10_findNeeds_45 (rg_ hC F10.1) F10.2.1 rfl rfl nvI (Or.inl rfl) v14 ev14 ?_
      refine g_aload_n C (f := 0) dX10_findNeeds_48 1 rfl ?_
      refine g_dup C (Nat.ne_of_beq_eq_false rfl) dX10_findNeeds_49 ?_
      refine g_getf C (k := 6) (kd := 0) okX10 (by decide) kf_RX10_126 dX10_findNeeds_50 (rg_ hC T0.1) T0.2.1 rfl ?_
      refine g_aload C (i := 4) dX10_findNeeds_53 0 rfl ?_
      refine g_getf C (k := 1) (kd := 0) okX1 (by decide) kf_RX10_141 dX10_findNeeds_55 (rg_ hC F10.1) F10.2.1 rfl ?_
      refine g_iconst C (n := 1) dX10_findNeeds_58 (by decide) ?_
      refine g_icmp_ne C 66 dX10_findNeeds_59 rfl (fun c15 => ?_) (fun c15 => ?_)
      · replace h := if_f h c15
        refine g_aload C (i := 4) dX10_findNeeds_66 0 rfl ?_
        refine g_getf C (k := 3) (kd := 0) okX1 (by decide) kf_RX10_138 dX10_findNeeds_68 (rg_ hC F10.1) F10.2.1 rfl ?_
        refine g_sub [1, 2, 3, 4, 0] rfl rfl ?_
        exact tX10_findNeeds_71 C hr hlk hC _ H_15 _ _ _ _ _ _ _ _ _ T0 T1 T2 F10 T0 h
      · replace h := if_t h c15
        refine g_iconst C (n := 0) dX10_findNeeds_62 (by decide) ?_
        refine g_goto C 71 dX10_findNeeds_63 rfl ?_
        refine g_sub [1, 2, 3, 4, 0] rfl rfl ?_
        exact tX10_findNeeds_71 C hr hlk hC _ H_15 _ _ _ _ _ _ _ _ _ T0 T1 T2 F10 T0 h
end
theorem cX10_findNeeds_ok (l : Launch) {E : En_} {sz : Int} (hC : Cl_ E.2.2.2.2.2 sz) {x0 x1 x2 : Int} {v : V_} {out : Int × V_} (T0 : (E.2.2.2.2.2 x0 ∧ ty_ x0 = 10 ∧ ln_ x0 = 0)) (T1 : (E.2.2.2.2.2 x1 ∧ ty_ x1 = 5 ∧ ln_ x1 = 0)) (T2 : (E.2.2.2.2.2 x2 ∧ ty_ x2 = 7 ∧ ln_ x2 = 0)) (h : fX10_findNeeds x0 x1 x2 v = some out) : Met l yX10_findNeeds [.code yX10_findNeeds cX10_findNeeds 6 (none : Option FieldType)] (rm_ 3 69) (Pc_ E sz v [(2, x0), (2, x1), (2, x2)]) (Qc_ E sz 9 out.1 out.2) 0 0 (fun q => E.1 < q) := by
  refine met_G0 RX10 (by decide +kernel) rfl (Nat.le_of_ble_eq_true rfl) ?_
  intro p e s m args below meth c C hr hlk
  rw [fX10_findNeeds] at h
  refine g_aload_n C (f := 0) dX10_findNeeds_0 0 rfl ?_
  have F1 := fX10_15 hC T0.1 T0.2.1
  refine g_getR C (k := 15) (o := 6) okX10 (by decide) kf_RX10_30 dX10_findNeeds_1 hC T0.1 T0.2.1 rfl rfl ?_
  refine g_iconst C (n := (-1)) dX10_findNeeds_4 (by decide) ?_
  obtain ⟨v2, ev2, h⟩ := lt_e h
  refine g_cS C [(2, x0 + 6), (0, (-1))] (c_fillI l (rg_ hC F1.1) F1.2.1 F1.2.2 (by decide)) km_RX10_120 cs_FillI rfl (by decide) rfl rfl (Nat.le_of_ble_eq_true rfl) dX10_findNeeds_5 ?_
  refine g_setv C ev2 ?_
  refine g_aload_n C (f := 0) dX10_findNeeds_8 0 rfl ?_
  refine g_iconst C (n := 0) dX10_findNeeds_9 (by decide) ?_
  obtain ⟨v3, ev3, h⟩ := lt_e h
  refine g_putf C (k := 6) (kd := 0) okX10 (by decide) kf_RX10_126 dX10_findNeeds_10 (rg_ hC T0.1) T0.2.1 rfl rfl nvI (Or.inl rfl) v3 ev3 ?_
  refine g_iconst C (n := 0) dX10_findNeeds_13 (by decide) ?_
  refine g_istore_n C (f := 3) (ls' := [(3, (0, 0)), (0, (2, x0)), (1, (2, x1)), (2, (2, x2))]) dX10_findNeeds_14 (by decide) rfl ?_
  refine g_sub [1, 2, 3, 0] rfl rfl ?_
  exact tX10_findNeeds_15 C hr hlk hC _ _ _ _ _ _ T0 T1 T2 h
theorem dX10_addItem_0 : decode cX10_addItem 0 = .ok (.aload_n 0, 1) := by decide +kernel
theorem dX10_addItem_1 : decode cX10_addItem 1 = .ok (.getfield 38, 3) := by decide +kernel
theorem dX10_addItem_4 : decode cX10_addItem 4 = .ok (.bipush 34, 2) := by decide +kernel
theorem dX10_addItem_6 : decode cX10_addItem 6 = .ok (.if_icmp .ge 13, 3) := by decide +kernel
theorem dX10_addItem_9 : decode cX10_addItem 9 = .ok (.aload_n 0, 1) := by decide +kernel
theorem dX10_addItem_10 : decode cX10_addItem 10 = .ok (.dup, 1) := by decide +kernel
theorem dX10_addItem_11 : decode cX10_addItem 11 = .ok (.getfield 38, 3) := by decide +kernel
theorem dX10_addItem_14 : decode cX10_addItem 14 = .ok (.iconst 1, 1) := by decide +kernel
theorem dX10_addItem_15 : decode cX10_addItem 15 = .ok (.iadd, 1) := by decide +kernel
theorem dX10_addItem_16 : decode cX10_addItem 16 = .ok (.putfield 38, 3) := by decide +kernel
theorem dX10_addItem_19 : decode cX10_addItem 19 = .ok (.aload_n 0, 1) := by decide +kernel
theorem dX10_addItem_20 : decode cX10_addItem 20 = .ok (.getfield 17, 3) := by decide +kernel
theorem dX10_addItem_23 : decode cX10_addItem 23 = .ok (.aload_n 0, 1) := by decide +kernel
theorem dX10_addItem_24 : decode cX10_addItem 24 = .ok (.getfield 38, 3) := by decide +kernel
theorem dX10_addItem_27 : decode cX10_addItem 27 = .ok (.iconst 1, 1) := by decide +kernel
theorem dX10_addItem_28 : decode cX10_addItem 28 = .ok (.isub, 1) := by decide +kernel
theorem dX10_addItem_29 : decode cX10_addItem 29 = .ok (.aaload, 1) := by decide +kernel
theorem dX10_addItem_30 : decode cX10_addItem 30 = .ok (.astore_n 3, 1) := by decide +kernel
theorem dX10_addItem_31 : decode cX10_addItem 31 = .ok (.aload_n 3, 1) := by decide +kernel
theorem dX10_addItem_32 : decode cX10_addItem 32 = .ok (.iload_n 1, 1) := by decide +kernel
theorem dX10_addItem_33 : decode cX10_addItem 33 = .ok (.iload_n 2, 1) := by decide +kernel
theorem dX10_addItem_34 : decode cX10_addItem 34 = .ok (.aload_n 0, 1) := by decide +kernel
theorem dX10_addItem_35 : decode cX10_addItem 35 = .ok (.getfield 47, 3) := by decide +kernel
theorem dX10_addItem_38 : decode cX10_addItem 38 = .ok (.invokevirtual 70, 3) := by decide +kernel
theorem dX10_addItem_41 : decode cX10_addItem 41 = .ok (.aload_n 3, 1) := by decide +kernel
theorem dX10_addItem_42 : decode cX10_addItem 42 = .ok (.areturn, 1) := by decide +kernel
def fX10_addItem_19 (x0 x1 x2 : Int) (v : V_) : Option (Int × V_) :=
  ck_ (0 ≤ wr_ ((v x0 3) - 1) ∧ wr_ ((v x0 3) - 1) < 34) (
  lt_ ((x0 + 2) + (5 + 2 * (wr_ ((v x0 3) - 1)))) fun y5 =>
  bd_ (fX1_begin y5 x1 x2 (v x0 16) v) fun q7 =>
  some (y5, q7.2))
def fX10_addItem (x0 x1 x2 : Int) (v : V_) : Option (Int × V_) :=
  if 34 ≤ (v x0 3) then (
    fX10_addItem_19 x0 x1 x2 v)
  else (
    lt_ (up_ v x0 3 (wr_ ((v x0 3) + 1))) fun v8 =>
    fX10_addItem_19 x0 x1 x2 v8)
section
variable {E : En_} {p : Program} {l : Launch} {e : Env} {s : State} {m : MethodId} {args : Array Value} {below : List Frame} {meth : Method} {c : Code} {sz : Int}
theorem tX10_addItem_19 (C : MC_ E p s m c cX10_addItem 4 RX10) (hr : meth.sig.returnType = (some (FieldType.object "TraceDesk$Item"))) (hlk : meth.locks = false) (hC : Cl_ E.2.2.2.2.2 sz) {out : Int × V_} (x0 x1 x2 : Int) (v : V_) (T0 : (E.2.2.2.2.2 x0 ∧ ty_ x0 = 10 ∧ ln_ x0 = 0)) (h : fX10_addItem_19 x0 x1 x2 v = some out) : G_ E p l e (rm_ 1 23) s m args below meth c 4 sz (Q_ E below args s sz sz 2 out.1 out.2) 19 [(0, (2, x0)), (1, (0, x1)), (2, (0, x2))] [] v sz := by
  rw [fX10_addItem_19] at h
  refine g_aload_n C (f := 0) dX10_addItem_19 0 rfl ?_
  have F2 := fX10_2 hC T0.1 T0.2.1
  refine g_getR C (k := 2) (o := 2) okX10 (by decide) kf_RX10_17 dX10_addItem_20 hC T0.1 T0.2.1 rfl rfl ?_
  refine g_aload_n C (f := 0) dX10_addItem_23 0 rfl ?_
  refine g_getf C (k := 3) (kd := 0) okX10 (by decide) kf_RX10_38 dX10_addItem_24 (rg_ hC T0.1) T0.2.1 rfl ?_
  refine g_iconst C (n := 1) dX10_addItem_27 (by decide) ?_
  refine g_isub C dX10_addItem_28 ?_
  obtain ⟨c3, h⟩ := ck_e h
  have F4 := fE_items (i := wr_ ((v x0 3) - 1)) hC F2.1 F2.2.1 F2.2.2 c3
  refine g_aald C 26 34 5 2 dX10_addItem_29 hC F2.1 F2.2.1 F2.2.2 c3 (by decide) oA_items ?_
  obtain ⟨y5, ey5, h⟩ := lt_e h
  refine g_set C ey5 ?_
  have F6 : (E.2.2.2.2.2 y5 ∧ ty_ y5 = 1 ∧ ln_ y5 = 0) := by rw [ey5]; exact F4
  refine g_astore_n C (f := 3) (ls' := [(3, (2, y5)), (0, (2, x0)), (1, (0, x1)), (2, (0, x2))]) dX10_addItem_30 (by decide) rfl ?_
  refine g_aload_n C (f := 3) dX10_addItem_31 0 rfl ?_
  refine g_iload_n C (f := 1) dX10_addItem_32 2 rfl ?_
  refine g_iload_n C (f := 2) dX10_addItem_33 3 rfl ?_
  refine g_aload_n C (f := 0) dX10_addItem_34 1 rfl ?_
  refine g_getf C (k := 16) (kd := 0) okX10 (by decide) kf_RX10_47 dX10_addItem_35 (rg_ hC T0.1) T0.2.1 rfl ?_
  obtain ⟨q7, eq7, h⟩ := bd_e h
  refine g_cV C [(0, x1), (0, x2), (0, v x0 16)] (cX1_begin_ok l hC F6 eq7) okX1 F6.2.1 (rg_ hC F6.1) km_RX10_70 cv_X1_begin rfl (by decide) rfl rfl (Nat.le_of_ble_eq_true rfl) dX10_addItem_38 ?_
  refine g_aload_n C (f := 3) dX10_addItem_41 0 rfl ?_
  cases h
  exact g_aret C dX10_addItem_42 hr (Or.inl ⟨_, rfl⟩) hlk
end
theorem cX10_addItem_ok (l : Launch) {E : En_} {sz : Int} (hC : Cl_ E.2.2.2.2.2 sz) {x0 x1 x2 : Int} {v : V_} {out : Int × V_} (T0 : (E.2.2.2.2.2 x0 ∧ ty_ x0 = 10 ∧ ln_ x0 = 0)) (h : fX10_addItem x0 x1 x2 v = some out) : Met l yX10_addItem [.code yX10_addItem cX10_addItem 4 (some (FieldType.object "TraceDesk$Item"))] (rm_ 1 23) (Pc_ E sz v [(2, x0), (0, x1), (0, x2)]) (Qc_ E sz 2 out.1 out.2) 0 0 (fun q => E.1 < q) := by
  refine met_G0 RX10 (by decide +kernel) rfl (Nat.le_of_ble_eq_true rfl) ?_
  intro p e s m args below meth c C hr hlk
  rw [fX10_addItem] at h
  refine g_aload_n C (f := 0) dX10_addItem_0 0 rfl ?_
  refine g_getf C (k := 3) (kd := 0) okX10 (by decide) kf_RX10_38 dX10_addItem_1 (rg_ hC T0.1) T0.2.1 rfl ?_
  refine g_bipush C (n := 34) dX10_addItem_4 (by decide) ?_
  refine g_icmp_ge C 19 dX10_addItem_6 rfl (fun c1 => ?_) (fun c1 => ?_)
  · replace h := if_t h c1
    refine g_sub [0, 1, 2] rfl rfl ?_
    exact tX10_addItem_19 C hr hlk hC _ _ _ _ T0 h
  · replace h := if_f h c1
    refine g_aload_n C (f := 0) dX10_addItem_9 0 rfl ?_
    refine g_dup C (Nat.ne_of_beq_eq_false rfl) dX10_addItem_10 ?_
    refine g_getf C (k := 3) (kd := 0) okX10 (by decide) kf_RX10_38 dX10_addItem_11 (rg_ hC T0.1) T0.2.1 rfl ?_
    refine g_iconst C (n := 1) dX10_addItem_14 (by decide) ?_
    refine g_iadd C dX10_addItem_15 ?_
    obtain ⟨v8, ev8, h⟩ := lt_e h
    refine g_putf C (k := 3) (kd := 0) okX10 (by decide) kf_RX10_38 dX10_addItem_16 (rg_ hC T0.1) T0.2.1 rfl rfl nvI (Or.inl rfl) v8 ev8 ?_
    refine g_sub [0, 1, 2] rfl rfl ?_
    exact tX10_addItem_19 C hr hlk hC _ _ _ _ T0 h
theorem rX10_addItem_ok {E : En_} {sz : Int} (hC : Cl_ E.2.2.2.2.2 sz) {x0 x1 x2 : Int} {v : V_} {out : Int × V_} (T0 : (E.2.2.2.2.2 x0 ∧ ty_ x0 = 10 ∧ ln_ x0 = 0)) (h : fX10_addItem x0 x1 x2 v = some out) : E.2.2.2.2.2 out.1 ∧ ty_ out.1 = 1 ∧ ln_ out.1 = 0 := by
  have key : ∀ v, fX10_addItem_19 x0 x1 x2 v = some out → E.2.2.2.2.2 out.1 ∧ ty_ out.1 = 1 ∧ ln_ out.1 = 0 := by
    intro v h
    rw [fX10_addItem_19] at h
    obtain ⟨g, h⟩ := ck_e h
    obtain ⟨y, ey, h⟩ := lt_e h
    obtain ⟨q, e, h⟩ := bd_e h
    cases h
    subst ey
    exact fE_items hC (fX10_2 hC T0.1 T0.2.1).1 (fX10_2 hC T0.1 T0.2.1).2.1 (fX10_2 hC T0.1 T0.2.1).2.2 g
  rw [fX10_addItem] at h
  split at h
  · exact key _ h
  · obtain ⟨_, _, h⟩ := lt_e h
    exact key _ h
theorem dX10_asRead_0 : decode cX10_asRead 0 = .ok (.iload_n 1, 1) := by decide +kernel
theorem dX10_asRead_1 : decode cX10_asRead 1 = .ok (.ifCond .ge 24, 3) := by decide +kernel
theorem dX10_asRead_4 : decode cX10_asRead 4 = .ok (.iload_n 1, 1) := by decide +kernel
theorem dX10_asRead_5 : decode cX10_asRead 5 = .ok (.iconst (-1), 1) := by decide +kernel
theorem dX10_asRead_6 : decode cX10_asRead 6 = .ok (.ixor, 1) := by decide +kernel
theorem dX10_asRead_7 : decode cX10_asRead 7 = .ok (.bipush 6, 2) := by decide +kernel
theorem dX10_asRead_9 : decode cX10_asRead 9 = .ok (.if_icmp .ge 16, 3) := by decide +kernel
theorem dX10_asRead_12 : decode cX10_asRead 12 = .ok (.aload_n 0, 1) := by decide +kernel
theorem dX10_asRead_13 : decode cX10_asRead 13 = .ok (.getfield 27, 3) := by decide +kernel
theorem dX10_asRead_16 : decode cX10_asRead 16 = .ok (.iload_n 1, 1) := by decide +kernel
theorem dX10_asRead_17 : decode cX10_asRead 17 = .ok (.iconst (-1), 1) := by decide +kernel
theorem dX10_asRead_18 : decode cX10_asRead 18 = .ok (.ixor, 1) := by decide +kernel
theorem dX10_asRead_19 : decode cX10_asRead 19 = .ok (.iaload, 1) := by decide +kernel
theorem dX10_asRead_20 : decode cX10_asRead 20 = .ok (.iconst (-1), 1) := by decide +kernel
theorem dX10_asRead_21 : decode cX10_asRead 21 = .ok (.ixor, 1) := by decide +kernel
theorem dX10_asRead_22 : decode cX10_asRead 22 = .ok (.goto 4, 3) := by decide +kernel
theorem dX10_asRead_25 : decode cX10_asRead 25 = .ok (.iload_n 1, 1) := by decide +kernel
theorem dX10_asRead_26 : decode cX10_asRead 26 = .ok (.ireturn, 1) := by decide +kernel
def fX10_asRead (x0 x1 : Int) (v : V_) : Option (Int × V_) :=
  if 0 ≤ x1 then (
    some (x1, v))
  else (
    if 6 ≤ (bX_ x1 (-1)) then (
      some (x1, v))
    else (
      ck_ (0 ≤ bX_ x1 (-1) ∧ bX_ x1 (-1) < 6) (
      some (bX_ (v (x0 + 5) (bX_ x1 (-1))) (-1), v))))
theorem cX10_asRead_ok (l : Launch) {E : En_} {sz : Int} (hC : Cl_ E.2.2.2.2.2 sz) {x0 x1 : Int} {v : V_} {out : Int × V_} (T0 : (E.2.2.2.2.2 x0 ∧ ty_ x0 = 10 ∧ ln_ x0 = 0)) (h : fX10_asRead x0 x1 v = some out) : Met l yX10_asRead [.code yX10_asRead cX10_asRead 2 (some FieldType.int)] (rm_ 0 0) (Pc_ E sz v [(2, x0), (0, x1)]) (Qc_ E sz 0 out.1 out.2) 0 0 (fun q => E.1 < q) := by
  refine met_G0 RX10 (by decide +kernel) rfl (Nat.le_of_ble_eq_true rfl) ?_
  intro p e s m args below meth c C hr hlk
  rw [fX10_asRead] at h
  refine g_iload_n C (f := 1) dX10_asRead_0 1 rfl ?_
  refine g_if_ge C 25 dX10_asRead_1 rfl (fun c1 => ?_) (fun c1 => ?_)
  · replace h := if_t h c1
    refine g_iload_n C (f := 1) dX10_asRead_25 1 rfl ?_
    cases h
    exact g_iret C dX10_asRead_26 hr hlk
  · replace h := if_f h c1
    refine g_iload_n C (f := 1) dX10_asRead_4 1 rfl ?_
    refine g_iconst C (n := (-1)) dX10_asRead_5 (by decide) ?_
    refine g_ixor C dX10_asRead_6 ?_
    refine g_bipush C (n := 6) dX10_asRead_7 (by decide) ?_
    refine g_icmp_ge C 25 dX10_asRead_9 rfl (fun c2 => ?_) (fun c2 => ?_)
    · replace h := if_t h c2
      refine g_iload_n C (f := 1) dX10_asRead_25 1 rfl ?_
      cases h
      exact g_iret C dX10_asRead_26 hr hlk
    · replace h := if_f h c2
      refine g_aload_n C (f := 0) dX10_asRead_12 0 rfl ?_
      have F3 := fX10_14 hC T0.1 T0.2.1
      refine g_getR C (k := 14) (o := 5) okX10 (by decide) kf_RX10_27 dX10_asRead_13 hC T0.1 T0.2.1 rfl rfl ?_
      refine g_iload_n C (f := 1) dX10_asRead_16 1 rfl ?_
      refine g_iconst C (n := (-1)) dX10_asRead_17 (by decide) ?_
      refine g_ixor C dX10_asRead_18 ?_
      obtain ⟨c4, h⟩ := ck_e h
      refine g_iald C 6 dX10_asRead_19 (rg_ hC F3.1) F3.2.1 F3.2.2 c4 ?_
      refine g_iconst C (n := (-1)) dX10_asRead_20 (by decide) ?_
      refine g_ixor C dX10_asRead_21 ?_
      refine g_goto C 26 dX10_asRead_22 rfl ?_
      cases h
      exact g_iret C dX10_asRead_26 hr hlk
theorem dX10_addEnd_0 : decode cX10_addEnd 0 = .ok (.aload_n 0, 1) := by decide +kernel
theorem dX10_addEnd_1 : decode cX10_addEnd 1 = .ok (.getfield 9, 3) := by decide +kernel
theorem dX10_addEnd_4 : decode cX10_addEnd 4 = .ok (.iload_n 2, 1) := by decide +kernel
theorem dX10_addEnd_5 : decode cX10_addEnd 5 = .ok (.iaload, 1) := by decide +kernel
theorem dX10_addEnd_6 : decode cX10_addEnd 6 = .ok (.istore_n 3, 1) := by decide +kernel
theorem dX10_addEnd_7 : decode cX10_addEnd 7 = .ok (.aload_n 1, 1) := by decide +kernel
theorem dX10_addEnd_8 : decode cX10_addEnd 8 = .ok (.getfield 104, 3) := by decide +kernel
theorem dX10_addEnd_11 : decode cX10_addEnd 11 = .ok (.iload_n 3, 1) := by decide +kernel
theorem dX10_addEnd_12 : decode cX10_addEnd 12 = .ok (.aaload, 1) := by decide +kernel
theorem dX10_addEnd_13 : decode cX10_addEnd 13 = .ok (.astore 4, 2) := by decide +kernel
theorem dX10_addEnd_15 : decode cX10_addEnd 15 = .ok (.iload_n 2, 1) := by decide +kernel
theorem dX10_addEnd_16 : decode cX10_addEnd 16 = .ok (.aload_n 0, 1) := by decide +kernel
theorem dX10_addEnd_17 : decode cX10_addEnd 17 = .ok (.getfield 34, 3) := by decide +kernel
theorem dX10_addEnd_20 : decode cX10_addEnd 20 = .ok (.iconst 1, 1) := by decide +kernel
theorem dX10_addEnd_21 : decode cX10_addEnd 21 = .ok (.isub, 1) := by decide +kernel
theorem dX10_addEnd_22 : decode cX10_addEnd 22 = .ok (.if_icmp .ne 41, 3) := by decide +kernel
theorem dX10_addEnd_25 : decode cX10_addEnd 25 = .ok (.aload_n 0, 1) := by decide +kernel
theorem dX10_addEnd_26 : decode cX10_addEnd 26 = .ok (.iconst 3, 1) := by decide +kernel
theorem dX10_addEnd_27 : decode cX10_addEnd 27 = .ok (.iload_n 3, 1) := by decide +kernel
theorem dX10_addEnd_28 : decode cX10_addEnd 28 = .ok (.invokevirtual 74, 3) := by decide +kernel
theorem dX10_addEnd_31 : decode cX10_addEnd 31 = .ok (.getfield 83, 3) := by decide +kernel
theorem dX10_addEnd_34 : decode cX10_addEnd 34 = .ok (.aload 4, 2) := by decide +kernel
theorem dX10_addEnd_36 : decode cX10_addEnd 36 = .ok (.getfield 87, 3) := by decide +kernel
theorem dX10_addEnd_39 : decode cX10_addEnd 39 = .ok (.bipush (-2), 2) := by decide +kernel
theorem dX10_addEnd_41 : decode cX10_addEnd 41 = .ok (.aload_n 0, 1) := by decide +kernel
theorem dX10_addEnd_42 : decode cX10_addEnd 42 = .ok (.aload 4, 2) := by decide +kernel
theorem dX10_addEnd_44 : decode cX10_addEnd 44 = .ok (.getfield 90, 3) := by decide +kernel
theorem dX10_addEnd_47 : decode cX10_addEnd 47 = .ok (.invokevirtual 93, 3) := by decide +kernel
theorem dX10_addEnd_50 : decode cX10_addEnd 50 = .ok (.aload_n 0, 1) := by decide +kernel
theorem dX10_addEnd_51 : decode cX10_addEnd 51 = .ok (.aload 4, 2) := by decide +kernel
theorem dX10_addEnd_53 : decode cX10_addEnd 53 = .ok (.getfield 97, 3) := by decide +kernel
theorem dX10_addEnd_56 : decode cX10_addEnd 56 = .ok (.invokevirtual 93, 3) := by decide +kernel
theorem dX10_addEnd_59 : decode cX10_addEnd 59 = .ok (.invokevirtual 100, 3) := by decide +kernel
theorem dX10_addEnd_62 : decode cX10_addEnd 62 = .ok (.return_, 1) := by decide +kernel
theorem dX10_addEnd_63 : decode cX10_addEnd 63 = .ok (.aload_n 0, 1) := by decide +kernel
theorem dX10_addEnd_64 : decode cX10_addEnd 64 = .ok (.getfield 9, 3) := by decide +kernel
theorem dX10_addEnd_67 : decode cX10_addEnd 67 = .ok (.iload_n 2, 1) := by decide +kernel
theorem dX10_addEnd_68 : decode cX10_addEnd 68 = .ok (.iconst 1, 1) := by decide +kernel
theorem dX10_addEnd_69 : decode cX10_addEnd 69 = .ok (.iadd, 1) := by decide +kernel
theorem dX10_addEnd_70 : decode cX10_addEnd 70 = .ok (.iaload, 1) := by decide +kernel
theorem dX10_addEnd_71 : decode cX10_addEnd 71 = .ok (.istore 5, 2) := by decide +kernel
theorem dX10_addEnd_73 : decode cX10_addEnd 73 = .ok (.aload_n 1, 1) := by decide +kernel
theorem dX10_addEnd_74 : decode cX10_addEnd 74 = .ok (.iload_n 3, 1) := by decide +kernel
theorem dX10_addEnd_75 : decode cX10_addEnd 75 = .ok (.iconst 0, 1) := by decide +kernel
theorem dX10_addEnd_76 : decode cX10_addEnd 76 = .ok (.invokevirtual 107, 3) := by decide +kernel
theorem dX10_addEnd_79 : decode cX10_addEnd 79 = .ok (.iload 5, 2) := by decide +kernel
theorem dX10_addEnd_81 : decode cX10_addEnd 81 = .ok (.if_icmp .ne 7, 3) := by decide +kernel
theorem dX10_addEnd_84 : decode cX10_addEnd 84 = .ok (.iconst 1, 1) := by decide +kernel
theorem dX10_addEnd_85 : decode cX10_addEnd 85 = .ok (.goto 4, 3) := by decide +kernel
theorem dX10_addEnd_88 : decode cX10_addEnd 88 = .ok (.iconst 0, 1) := by decide +kernel
theorem dX10_addEnd_89 : decode cX10_addEnd 89 = .ok (.istore 6, 2) := by decide +kernel
theorem dX10_addEnd_91 : decode cX10_addEnd 91 = .ok (.aload_n 1, 1) := by decide +kernel
theorem dX10_addEnd_92 : decode cX10_addEnd 92 = .ok (.iload_n 3, 1) := by decide +kernel
theorem dX10_addEnd_93 : decode cX10_addEnd 93 = .ok (.iload 6, 2) := by decide +kernel
theorem dX10_addEnd_95 : decode cX10_addEnd 95 = .ok (.invokevirtual 107, 3) := by decide +kernel
theorem dX10_addEnd_98 : decode cX10_addEnd 98 = .ok (.istore 7, 2) := by decide +kernel
theorem dX10_addEnd_100 : decode cX10_addEnd 100 = .ok (.aload 4, 2) := by decide +kernel
theorem dX10_addEnd_102 : decode cX10_addEnd 102 = .ok (.getfield 87, 3) := by decide +kernel
theorem dX10_addEnd_105 : decode cX10_addEnd 105 = .ok (.bipush 8, 2) := by decide +kernel
theorem dX10_addEnd_107 : decode cX10_addEnd 107 = .ok (.if_icmp .ne 98, 3) := by decide +kernel
theorem dX10_addEnd_110 : decode cX10_addEnd 110 = .ok (.iload 7, 2) := by decide +kernel
theorem dX10_addEnd_112 : decode cX10_addEnd 112 = .ok (.iload 5, 2) := by decide +kernel
theorem dX10_addEnd_114 : decode cX10_addEnd 114 = .ok (.if_icmp .eq 91, 3) := by decide +kernel
theorem dX10_addEnd_117 : decode cX10_addEnd 117 = .ok (.aload_n 0, 1) := by decide +kernel
theorem dX10_addEnd_118 : decode cX10_addEnd 118 = .ok (.iconst 2, 1) := by decide +kernel
theorem dX10_addEnd_119 : decode cX10_addEnd 119 = .ok (.iload_n 3, 1) := by decide +kernel
theorem dX10_addEnd_120 : decode cX10_addEnd 120 = .ok (.invokevirtual 74, 3) := by decide +kernel
theorem dX10_addEnd_123 : decode cX10_addEnd 123 = .ok (.astore 8, 2) := by decide +kernel
theorem dX10_addEnd_125 : decode cX10_addEnd 125 = .ok (.aload 8, 2) := by decide +kernel
theorem dX10_addEnd_127 : decode cX10_addEnd 127 = .ok (.getfield 83, 3) := by decide +kernel
theorem dX10_addEnd_130 : decode cX10_addEnd 130 = .ok (.bipush 8, 2) := by decide +kernel
theorem dX10_addEnd_132 : decode cX10_addEnd 132 = .ok (.bipush (-2), 2) := by decide +kernel
theorem dX10_addEnd_134 : decode cX10_addEnd 134 = .ok (.aload_n 0, 1) := by decide +kernel
theorem dX10_addEnd_135 : decode cX10_addEnd 135 = .ok (.aload 4, 2) := by decide +kernel
theorem dX10_addEnd_137 : decode cX10_addEnd 137 = .ok (.getfield 90, 3) := by decide +kernel
theorem dX10_addEnd_140 : decode cX10_addEnd 140 = .ok (.invokevirtual 93, 3) := by decide +kernel
theorem dX10_addEnd_143 : decode cX10_addEnd 143 = .ok (.aload_n 0, 1) := by decide +kernel
theorem dX10_addEnd_144 : decode cX10_addEnd 144 = .ok (.aload 4, 2) := by decide +kernel
theorem dX10_addEnd_146 : decode cX10_addEnd 146 = .ok (.getfield 97, 3) := by decide +kernel
theorem dX10_addEnd_149 : decode cX10_addEnd 149 = .ok (.invokevirtual 93, 3) := by decide +kernel
theorem dX10_addEnd_152 : decode cX10_addEnd 152 = .ok (.invokevirtual 100, 3) := by decide +kernel
theorem dX10_addEnd_155 : decode cX10_addEnd 155 = .ok (.aload 8, 2) := by decide +kernel
theorem dX10_addEnd_157 : decode cX10_addEnd 157 = .ok (.iload 6, 2) := by decide +kernel
theorem dX10_addEnd_159 : decode cX10_addEnd 159 = .ok (.putfield 111, 3) := by decide +kernel
theorem dX10_addEnd_162 : decode cX10_addEnd 162 = .ok (.aload 8, 2) := by decide +kernel
theorem dX10_addEnd_164 : decode cX10_addEnd 164 = .ok (.iload 7, 2) := by decide +kernel
theorem dX10_addEnd_166 : decode cX10_addEnd 166 = .ok (.putfield 114, 3) := by decide +kernel
theorem dX10_addEnd_169 : decode cX10_addEnd 169 = .ok (.aload_n 0, 1) := by decide +kernel
theorem dX10_addEnd_170 : decode cX10_addEnd 170 = .ok (.dup, 1) := by decide +kernel
theorem dX10_addEnd_171 : decode cX10_addEnd 171 = .ok (.getfield 41, 3) := by decide +kernel
theorem dX10_addEnd_174 : decode cX10_addEnd 174 = .ok (.iconst 1, 1) := by decide +kernel
theorem dX10_addEnd_175 : decode cX10_addEnd 175 = .ok (.iadd, 1) := by decide +kernel
theorem dX10_addEnd_176 : decode cX10_addEnd 176 = .ok (.putfield 41, 3) := by decide +kernel
theorem dX10_addEnd_179 : decode cX10_addEnd 179 = .ok (.aload_n 0, 1) := by decide +kernel
theorem dX10_addEnd_180 : decode cX10_addEnd 180 = .ok (.aload_n 0, 1) := by decide +kernel
theorem dX10_addEnd_181 : decode cX10_addEnd 181 = .ok (.getfield 38, 3) := by decide +kernel
theorem dX10_addEnd_184 : decode cX10_addEnd 184 = .ok (.iconst 1, 1) := by decide +kernel
theorem dX10_addEnd_185 : decode cX10_addEnd 185 = .ok (.isub, 1) := by decide +kernel
theorem dX10_addEnd_186 : decode cX10_addEnd 186 = .ok (.putfield 47, 3) := by decide +kernel
theorem dX10_addEnd_189 : decode cX10_addEnd 189 = .ok (.aload_n 0, 1) := by decide +kernel
theorem dX10_addEnd_190 : decode cX10_addEnd 190 = .ok (.dup, 1) := by decide +kernel
theorem dX10_addEnd_191 : decode cX10_addEnd 191 = .ok (.getfield 50, 3) := by decide +kernel
theorem dX10_addEnd_194 : decode cX10_addEnd 194 = .ok (.aload_n 1, 1) := by decide +kernel
theorem dX10_addEnd_195 : decode cX10_addEnd 195 = .ok (.getfield 117, 3) := by decide +kernel
theorem dX10_addEnd_198 : decode cX10_addEnd 198 = .ok (.iload 7, 2) := by decide +kernel
theorem dX10_addEnd_200 : decode cX10_addEnd 200 = .ok (.iaload, 1) := by decide +kernel
theorem dX10_addEnd_201 : decode cX10_addEnd 201 = .ok (.ior, 1) := by decide +kernel
theorem dX10_addEnd_202 : decode cX10_addEnd 202 = .ok (.putfield 50, 3) := by decide +kernel
theorem dX10_addEnd_205 : decode cX10_addEnd 205 = .ok (.return_, 1) := by decide +kernel
def fX10_addEnd_89 (x0 x1 x3 x4 x5 s0 : Int) (v : V_) : Option (Int × V_) :=
  bd_ (fX5_leadsTo x1 x3 s0 v) fun q15 =>
  if (q15.2 x4 0) = 8 then (
    if q15.1 = x5 then (
      some (0, q15.2))
    else (
      bd_ (fX10_addItem x0 2 x3 q15.2) fun q18 =>
      bd_ (fX10_asRead x0 (q18.2 x4 2) q18.2) fun q21 =>
      bd_ (fX10_asRead x0 (q21.2 x4 3) q21.2) fun q22 =>
      bd_ (fX8_tell (q18.1 + 1) 8 (-2) q21.1 q22.1 q22.2) fun q23 =>
      lt_ (up_ q23.2 q18.1 4 s0) fun v24 =>
      lt_ (up_ v24 q18.1 5 q15.1) fun v25 =>
      lt_ (up_ v25 x0 4 (wr_ ((v25 x0 4) + 1))) fun v26 =>
      lt_ (up_ v26 x0 16 (wr_ ((v26 x0 3) - 1))) fun v27 =>
      ck_ (0 ≤ q15.1 ∧ q15.1 < 8) (
      lt_ (up_ v27 x0 17 (bO_ (v27 x0 17) (v27 (x1 + 5) q15.1))) fun v30 =>
      some (0, v30))))
  else (
    some (0, q15.2))
def fX10_addEnd (x0 x1 x2 : Int) (v : V_) : Option (Int × V_) :=
  ck_ (0 ≤ x2 ∧ x2 < 4) (
  lt_ (v (x0 + 1) x2) fun y3 =>
  ck_ (0 ≤ y3 ∧ y3 < 8) (
  lt_ ((x1 + 3) + (53 + 1 * y3)) fun y7 =>
  if x2 = (wr_ ((v x0 1) - 1)) then (
    bd_ (fX10_addItem x0 3 y3 v) fun q31 =>
    bd_ (fX10_asRead x0 (q31.2 y7 2) q31.2) fun q34 =>
    bd_ (fX10_asRead x0 (q34.2 y7 3) q34.2) fun q35 =>
    bd_ (fX8_tell (q31.1 + 1) (q31.2 y7 0) (-2) q34.1 q35.1 q35.2) fun q36 =>
    some (0, q36.2))
  else (
    ck_ (0 ≤ wr_ (x2 + 1) ∧ wr_ (x2 + 1) < 4) (
    lt_ (v (x0 + 1) (wr_ (x2 + 1))) fun y12 =>
    bd_ (fX5_leadsTo x1 y3 0 v) fun q13 =>
    if q13.1 = y12 then (
      fX10_addEnd_89 x0 x1 y3 y7 y12 1 q13.2)
    else (
      fX10_addEnd_89 x0 x1 y3 y7 y12 0 q13.2)))))
section
variable {E : En_} {p : Program} {l : Launch} {e : Env} {s : State} {m : MethodId} {args : Array Value} {below : List Frame} {meth : Method} {c : Code} {sz : Int}
theorem tX10_addEnd_89 (C : MC_ E p s m c cX10_addEnd 9 RX10) (hr : meth.sig.returnType = (none : Option FieldType)) (hlk : meth.locks = false) (hC : Cl_ E.2.2.2.2.2 sz) {out : Int × V_} (x0 x1 x3 x4 x5 s0 : Int) (v : V_) (T0 : (E.2.2.2.2.2 x0 ∧ ty_ x0 = 10 ∧ ln_ x0 = 0)) (T1 : (E.2.2.2.2.2 x1 ∧ ty_ x1 = 5 ∧ ln_ x1 = 0)) (T4 : (E.2.2.2.2.2 x4 ∧ ty_ x4 = 8 ∧ ln_ x4 = 0)) (h : fX10_addEnd_89 x0 x1 x3 x4 x5 s0 v = some out) : G_ E p l e (rm_ 2 46) s m args below meth c 9 sz (Q_ E below args s sz sz 9 out.1 out.2) 89 [(0, (2, x0)), (1, (2, x1)), (3, (0, x3)), (4, (2, x4)), (5, (0, x5))] [(0, s0)] v sz := by
  rw [fX10_addEnd_89] at h
  refine g_istore C (i := 6) (ls' := [(6, (0, s0)), (0, (2, x0)), (1, (2, x1)), (3, (0, x3)), (4, (2, x4)), (5, (0, x5))]) dX10_addEnd_89 (by decide) rfl ?_
  refine g_aload_n C (f := 1) dX10_addEnd_91 2 rfl ?_
  refine g_iload_n C (f := 3) dX10_addEnd_92 3 rfl ?_
  refine g_iload C (i := 6) dX10_addEnd_93 0 rfl ?_
  obtain ⟨q15, eq15, h⟩ := bd_e h
  refine g_cV C [(0, x3), (0, s0)] (cX5_leadsTo_ok l hC T1 eq15) okX5 T1.2.1 (rg_ hC T1.1) km_RX10_107 cv_X5_leadsTo rfl (by decide) rfl rfl (Nat.le_of_ble_eq_true rfl) dX10_addEnd_95 ?_
  refine g_istore C (i := 7) (ls' := [(7, (0, q15.1)), (6, (0, s0)), (0, (2, x0)), (1, (2, x1)), (3, (0, x3)), (4, (2, x4)), (5, (0, x5))]) dX10_addEnd_98 (by decide) rfl ?_
  refine g_aload C (i := 4) dX10_addEnd_100 5 rfl ?_
  refine g_getf C (k := 0) (kd := 0) okX8 (by decide) kf_RX10_87 dX10_addEnd_102 (rg_ hC T4.1) T4.2.1 rfl ?_
  refine g_bipush C (n := 8) dX10_addEnd_105 (by decide) ?_
  refine g_icmp_ne C 205 dX10_addEnd_107 rfl (fun c16 => ?_) (fun c16 => ?_)
  · replace h := if_f h c16
    cases h
    exact g_vret C dX10_addEnd_205 hr hlk
  · replace h := if_t h c16
    refine g_iload C (i := 7) dX10_addEnd_110 0 rfl ?_
    refine g_iload C (i := 5) dX10_addEnd_112 6 rfl ?_
    refine g_icmp_eq C 205 dX10_addEnd_114 rfl (fun c17 => ?_) (fun c17 => ?_)
    · replace h := if_t h c17
      cases h
      exact g_vret C dX10_addEnd_205 hr hlk
    · replace h := if_f h c17
      refine g_aload_n C (f := 0) dX10_addEnd_117 2 rfl ?_
      refine g_iconst C (n := 2) dX10_addEnd_118 (by decide) ?_
      refine g_iload_n C (f := 3) dX10_addEnd_119 4 rfl ?_
      obtain ⟨q18, eq18, h⟩ := bd_e h
      refine g_cV C [(0, 2), (0, x3)] (cX10_addItem_ok l hC T0 eq18) okX10 T0.2.1 (rg_ hC T0.1) km_RX10_74 cv_X10_addItem rfl (by decide) rfl rfl (Nat.le_of_ble_eq_true rfl) dX10_addEnd_120 ?_
      have F19 := rX10_addItem_ok hC T0 eq18
      refine g_astore C (i := 8) (ls' := [(8, (2, q18.1)), (7, (0, q15.1)), (6, (0, s0)), (0, (2, x0)), (1, (2, x1)), (3, (0, x3)), (4, (2, x4)), (5, (0, x5))]) dX10_addEnd_123 (by decide) rfl ?_
      refine g_aload C (i := 8) dX10_addEnd_125 0 rfl ?_
      have F20 := fX1_0 hC F19.1 F19.2.1
      refine g_getR C (k := 0) (o := 1) okX1 (by decide) kf_RX10_83 dX10_addEnd_127 hC F19.1 F19.2.1 rfl rfl ?_
      refine g_bipush C (n := 8) dX10_addEnd_130 (by decide) ?_
      refine g_bipush C (n := (-2)) dX10_addEnd_132 (by decide) ?_
      refine g_aload_n C (f := 0) dX10_addEnd_134 3 rfl ?_
      refine g_aload C (i := 4) dX10_addEnd_135 6 rfl ?_
      refine g_getf C (k := 2) (kd := 0) okX8 (by decide) kf_RX10_90 dX10_addEnd_137 (rg_ hC T4.1) T4.2.1 rfl ?_
      obtain ⟨q21, eq21, h⟩ := bd_e h
      refine g_cV C [(0, q18.2 x4 2)] (cX10_asRead_ok l hC T0 eq21) okX10 T0.2.1 (rg_ hC T0.1) km_RX10_93 cv_X10_asRead rfl (by decide) rfl rfl (Nat.le_of_ble_eq_true rfl) dX10_addEnd_140 ?_
      refine g_aload_n C (f := 0) dX10_addEnd_143 3 rfl ?_
      refine g_aload C (i := 4) dX10_addEnd_144 6 rfl ?_
      refine g_getf C (k := 3) (kd := 0) okX8 (by decide) kf_RX10_97 dX10_addEnd_146 (rg_ hC T4.1) T4.2.1 rfl ?_
      obtain ⟨q22, eq22, h⟩ := bd_e h
      refine g_cV C [(0, q21.2 x4 3)] (cX10_asRead_ok l hC T0 eq22) okX10 T0.2.1 (rg_ hC T0.1) km_RX10_93 cv_X10_asRead rfl (by decide) rfl rfl (Nat.le_of_ble_eq_true rfl) dX10_addEnd_149 ?_
      obtain ⟨q23, eq23, h⟩ := bd_e h
      refine g_cV C [(0, 8), (0, (-2)), (0, q21.1), (0, q22.1)] (cX8_tell_ok l hC F20 eq23) okX8 F20.2.1 (rg_ hC F20.1) km_RX10_100 cv_X8_tell rfl (by decide) rfl rfl (Nat.le_of_ble_eq_true rfl) dX10_addEnd_152 ?_
      refine g_aload C (i := 8) dX10_addEnd_155 0 rfl ?_
      refine g_iload C (i := 6) dX10_addEnd_157 2 rfl ?_
      obtain ⟨v24, ev24, h⟩ := lt_e h
      refine g_putf C (k := 4) (kd := 0) okX1 (by decide) kf_RX10_111 dX10_addEnd_159 (rg_ hC F19.1) F19.2.1 rfl rfl nvI (Or.inl rfl) v24 ev24 ?_
      refine g_aload C (i := 8) dX10_addEnd_162 0 rfl ?_
      refine g_iload C (i := 7) dX10_addEnd_164 1 rfl ?_
      obtain ⟨v25, ev25, h⟩ := lt_e h
      refine g_putf C (k := 5) (kd := 0) okX1 (by decide) kf_RX10_114 dX10_addEnd_166 (rg_ hC F19.1) F19.2.1 rfl rfl nvI (Or.inl rfl) v25 ev25 ?_
      refine g_aload_n C (f := 0) dX10_addEnd_169 3 rfl ?_
      refine g_dup C (Nat.ne_of_beq_eq_false rfl) dX10_addEnd_170 ?_
      refine g_getf C (k := 4) (kd := 0) okX10 (by decide) kf_RX10_41 dX10_addEnd_171 (rg_ hC T0.1) T0.2.1 rfl ?_
      refine g_iconst C (n := 1) dX10_addEnd_174 (by decide) ?_
      refine g_iadd C dX10_addEnd_175 ?_
      obtain ⟨v26, ev26, h⟩ := lt_e h
      refine g_putf C (k := 4) (kd := 0) okX10 (by decide) kf_RX10_41 dX10_addEnd_176 (rg_ hC T0.1) T0.2.1 rfl rfl nvI (Or.inl rfl) v26 ev26 ?_
      refine g_aload_n C (f := 0) dX10_addEnd_179 3 rfl ?_
      refine g_aload_n C (f := 0) dX10_addEnd_180 3 rfl ?_
      refine g_getf C (k := 3) (kd := 0) okX10 (by decide) kf_RX10_38 dX10_addEnd_181 (rg_ hC T0.1) T0.2.1 rfl ?_
      refine g_iconst C (n := 1) dX10_addEnd_184 (by decide) ?_
      refine g_isub C dX10_addEnd_185 ?_
      obtain ⟨v27, ev27, h⟩ := lt_e h
      refine g_putf C (k := 16) (kd := 0) okX10 (by decide) kf_RX10_47 dX10_addEnd_186 (rg_ hC T0.1) T0.2.1 rfl rfl nvI (Or.inl rfl) v27 ev27 ?_
      refine g_aload_n C (f := 0) dX10_addEnd_189 3 rfl ?_
      refine g_dup C (Nat.ne_of_beq_eq_false rfl) dX10_addEnd_190 ?_
      refine g_getf C (k := 17) (kd := 0) okX10 (by decide) kf_RX10_50 dX10_addEnd_191 (rg_ hC T0.1) T0.2.1 rfl ?_
      refine g_aload_n C (f := 1) dX10_addEnd_194 4 rfl ?_
      have F28 := fX5_5 hC T1.1 T1.2.1
      refine g_getR C (k := 5) (o := 5) okX5 (by decide) kf_RX10_117 dX10_addEnd_195 hC T1.1 T1.2.1 rfl rfl ?_
      refine g_iload C (i := 7) dX10_addEnd_198 1 rfl ?_
      obtain ⟨c29, h⟩ := ck_e h
      refine g_iald C 8 dX10_addEnd_200 (rg_ hC F28.1) F28.2.1 F28.2.2 c29 ?_
      refine g_ior C dX10_addEnd_201 ?_
      obtain ⟨v30, ev30, h⟩ := lt_e h
      refine g_putf C (k := 17) (kd := 0) okX10 (by decide) kf_RX10_50 dX10_addEnd_202 (rg_ hC T0.1) T0.2.1 rfl rfl nvI (Or.inl rfl) v30 ev30 ?_
      cases h
      exact g_vret C dX10_addEnd_205 hr hlk
end
theorem cX10_addEnd_ok (l : Launch) {E : En_} {sz : Int} (hC : Cl_ E.2.2.2.2.2 sz) {x0 x1 x2 : Int} {v : V_} {out : Int × V_} (T0 : (E.2.2.2.2.2 x0 ∧ ty_ x0 = 10 ∧ ln_ x0 = 0)) (T1 : (E.2.2.2.2.2 x1 ∧ ty_ x1 = 5 ∧ ln_ x1 = 0)) (h : fX10_addEnd x0 x1 x2 v = some out) : Met l yX10_addEnd [.code yX10_addEnd cX10_addEnd 9 (none : Option FieldType)] (rm_ 2 46) (Pc_ E sz v [(2, x0), (2, x1), (0, x2)]) (Qc_ E sz 9 out.1 out.2) 0 0 (fun q => E.1 < q) := by
  refine met_G0 RX10 (by decide +kernel) rfl (Nat.le_of_ble_eq_true rfl) ?_
  intro p e s m args below meth c C hr hlk
  rw [fX10_addEnd] at h
  refine g_aload_n C (f := 0) dX10_addEnd_0 0 rfl ?_
  have F1 := fX10_0 hC T0.1 T0.2.1
  refine g_getR C (k := 0) (o := 1) okX10 (by decide) kf_RX10_9 dX10_addEnd_1 hC T0.1 T0.2.1 rfl rfl ?_
  refine g_iload_n C (f := 2) dX10_addEnd_4 2 rfl ?_
  obtain ⟨c2, h⟩ := ck_e h
  refine g_iald C 4 dX10_addEnd_5 (rg_ hC F1.1) F1.2.1 F1.2.2 c2 ?_
  obtain ⟨y3, ey3, h⟩ := lt_e h
  refine g_set C ey3 ?_
  refine g_istore_n C (f := 3) (ls' := [(3, (0, y3)), (0, (2, x0)), (1, (2, x1)), (2, (0, x2))]) dX10_addEnd_6 (by decide) rfl ?_
  refine g_aload_n C (f := 1) dX10_addEnd_7 2 rfl ?_
  have F4 := fX5_3 hC T1.1 T1.2.1
  refine g_getR C (k := 3) (o := 3) okX5 (by decide) kf_RX10_104 dX10_addEnd_8 hC T1.1 T1.2.1 rfl rfl ?_
  refine g_iload_n C (f := 3) dX10_addEnd_11 0 rfl ?_
  obtain ⟨c5, h⟩ := ck_e h
  have F6 := fE_ends (i := y3) hC F4.1 F4.2.1 F4.2.2 c5
  refine g_aald C 25 8 53 1 dX10_addEnd_12 hC F4.1 F4.2.1 F4.2.2 c5 (by decide) oA_ends ?_
  obtain ⟨y7, ey7, h⟩ := lt_e h
  refine g_set C ey7 ?_
  have F8 : (E.2.2.2.2.2 y7 ∧ ty_ y7 = 8 ∧ ln_ y7 = 0) := by rw [ey7]; exact F6
  refine g_astore C (i := 4) (ls' := [(4, (2, y7)), (3, (0, y3)), (0, (2, x0)), (1, (2, x1)), (2, (0, x2))]) dX10_addEnd_13 (by decide) rfl ?_
  refine g_iload_n C (f := 2) dX10_addEnd_15 4 rfl ?_
  refine g_aload_n C (f := 0) dX10_addEnd_16 2 rfl ?_
  refine g_getf C (k := 1) (kd := 0) okX10 (by decide) kf_RX10_34 dX10_addEnd_17 (rg_ hC T0.1) T0.2.1 rfl ?_
  refine g_iconst C (n := 1) dX10_addEnd_20 (by decide) ?_
  refine g_isub C dX10_addEnd_21 ?_
  refine g_icmp_ne C 63 dX10_addEnd_22 rfl (fun c9 => ?_) (fun c9 => ?_)
  · replace h := if_f h c9
    refine g_aload_n C (f := 0) dX10_addEnd_63 2 rfl ?_
    have F10 := fX10_0 hC T0.1 T0.2.1
    refine g_getR C (k := 0) (o := 1) okX10 (by decide) kf_RX10_9 dX10_addEnd_64 hC T0.1 T0.2.1 rfl rfl ?_
    refine g_iload_n C (f := 2) dX10_addEnd_67 4 rfl ?_
    refine g_iconst C (n := 1) dX10_addEnd_68 (by decide) ?_
    refine g_iadd C dX10_addEnd_69 ?_
    obtain ⟨c11, h⟩ := ck_e h
    refine g_iald C 4 dX10_addEnd_70 (rg_ hC F10.1) F10.2.1 F10.2.2 c11 ?_
    obtain ⟨y12, ey12, h⟩ := lt_e h
    refine g_set C ey12 ?_
    refine g_istore C (i := 5) (ls' := [(5, (0, y12)), (4, (2, y7)), (3, (0, y3)), (0, (2, x0)), (1, (2, x1)), (2, (0, x2))]) dX10_addEnd_71 (by decide) rfl ?_
    refine g_aload_n C (f := 1) dX10_addEnd_73 4 rfl ?_
    refine g_iload_n C (f := 3) dX10_addEnd_74 2 rfl ?_
    refine g_iconst C (n := 0) dX10_addEnd_75 (by decide) ?_
    obtain ⟨q13, eq13, h⟩ := bd_e h
    refine g_cV C [(0, y3), (0, 0)] (cX5_leadsTo_ok l hC T1 eq13) okX5 T1.2.1 (rg_ hC T1.1) km_RX10_107 cv_X5_leadsTo rfl (by decide) rfl rfl (Nat.le_of_ble_eq_true rfl) dX10_addEnd_76 ?_
    refine g_iload C (i := 5) dX10_addEnd_79 0 rfl ?_
    refine g_icmp_ne C 88 dX10_addEnd_81 rfl (fun c14 => ?_) (fun c14 => ?_)
    · replace h := if_f h c14
      refine g_iconst C (n := 0) dX10_addEnd_88 (by decide) ?_
      refine g_sub [3, 4, 2, 1, 0] rfl rfl ?_
      exact tX10_addEnd_89 C hr hlk hC _ _ _ _ _ _ _ T0 T1 F8 h
    · replace h := if_t h c14
      refine g_iconst C (n := 1) dX10_addEnd_84 (by decide) ?_
      refine g_goto C 89 dX10_addEnd_85 rfl ?_
      refine g_sub [3, 4, 2, 1, 0] rfl rfl ?_
      exact tX10_addEnd_89 C hr hlk hC _ _ _ _ _ _ _ T0 T1 F8 h
  · replace h := if_t h c9
    refine g_aload_n C (f := 0) dX10_addEnd_25 2 rfl ?_
    refine g_iconst C (n := 3) dX10_addEnd_26 (by decide) ?_
    refine g_iload_n C (f := 3) dX10_addEnd_27 1 rfl ?_
    obtain ⟨q31, eq31, h⟩ := bd_e h
    refine g_cV C [(0, 3), (0, y3)] (cX10_addItem_ok l hC T0 eq31) okX10 T0.2.1 (rg_ hC T0.1) km_RX10_74 cv_X10_addItem rfl (by decide) rfl rfl (Nat.le_of_ble_eq_true rfl) dX10_addEnd_28 ?_
    have F32 := rX10_addItem_ok hC T0 eq31
    have F33 := fX1_0 hC F32.1 F32.2.1
    refine g_getR C (k := 0) (o := 1) okX1 (by decide) kf_RX10_83 dX10_addEnd_31 hC F32.1 F32.2.1 rfl rfl ?_
    refine g_aload C (i := 4) dX10_addEnd_34 0 rfl ?_
    refine g_getf C (k := 0) (kd := 0) okX8 (by decide) kf_RX10_87 dX10_addEnd_36 (rg_ hC F8.1) F8.2.1 rfl ?_
    refine g_bipush C (n := (-2)) dX10_addEnd_39 (by decide) ?_
    refine g_aload_n C (f := 0) dX10_addEnd_41 2 rfl ?_
    refine g_aload C (i := 4) dX10_addEnd_42 0 rfl ?_
    refine g_getf C (k := 2) (kd := 0) okX8 (by decide) kf_RX10_90 dX10_addEnd_44 (rg_ hC F8.1) F8.2.1 rfl ?_
    obtain ⟨q34, eq34, h⟩ := bd_e h
    refine g_cV C [(0, q31.2 y7 2)] (cX10_asRead_ok l hC T0 eq34) okX10 T0.2.1 (rg_ hC T0.1) km_RX10_93 cv_X10_asRead rfl (by decide) rfl rfl (Nat.le_of_ble_eq_true rfl) dX10_addEnd_47 ?_
    refine g_aload_n C (f := 0) dX10_addEnd_50 2 rfl ?_
    refine g_aload C (i := 4) dX10_addEnd_51 0 rfl ?_
    refine g_getf C (k := 3) (kd := 0) okX8 (by decide) kf_RX10_97 dX10_addEnd_53 (rg_ hC F8.1) F8.2.1 rfl ?_
    obtain ⟨q35, eq35, h⟩ := bd_e h
    refine g_cV C [(0, q34.2 y7 3)] (cX10_asRead_ok l hC T0 eq35) okX10 T0.2.1 (rg_ hC T0.1) km_RX10_93 cv_X10_asRead rfl (by decide) rfl rfl (Nat.le_of_ble_eq_true rfl) dX10_addEnd_56 ?_
    obtain ⟨q36, eq36, h⟩ := bd_e h
    refine g_cV C [(0, q31.2 y7 0), (0, (-2)), (0, q34.1), (0, q35.1)] (cX8_tell_ok l hC F33 eq36) okX8 F33.2.1 (rg_ hC F33.1) km_RX10_100 cv_X8_tell rfl (by decide) rfl rfl (Nat.le_of_ble_eq_true rfl) dX10_addEnd_59 ?_
    cases h
    exact g_vret C dX10_addEnd_62 hr hlk
theorem dX10_addLine_0 : decode cX10_addLine 0 = .ok (.aload_n 0, 1) := by decide +kernel
theorem dX10_addLine_1 : decode cX10_addLine 1 = .ok (.iconst 0, 1) := by decide +kernel
theorem dX10_addLine_2 : decode cX10_addLine 2 = .ok (.iload_n 2, 1) := by decide +kernel
theorem dX10_addLine_3 : decode cX10_addLine 3 = .ok (.invokevirtual 74, 3) := by decide +kernel
theorem dX10_addLine_6 : decode cX10_addLine 6 = .ok (.astore 4, 2) := by decide +kernel
theorem dX10_addLine_8 : decode cX10_addLine 8 = .ok (.aload_n 1, 1) := by decide +kernel
theorem dX10_addLine_9 : decode cX10_addLine 9 = .ok (.getfield 78, 3) := by decide +kernel
theorem dX10_addLine_12 : decode cX10_addLine 12 = .ok (.istore 5, 2) := by decide +kernel
theorem dX10_addLine_14 : decode cX10_addLine 14 = .ok (.aload 4, 2) := by decide +kernel
theorem dX10_addLine_16 : decode cX10_addLine 16 = .ok (.getfield 83, 3) := by decide +kernel
theorem dX10_addLine_19 : decode cX10_addLine 19 = .ok (.aload_n 1, 1) := by decide +kernel
theorem dX10_addLine_20 : decode cX10_addLine 20 = .ok (.getfield 87, 3) := by decide +kernel
theorem dX10_addLine_23 : decode cX10_addLine 23 = .ok (.iload 5, 2) := by decide +kernel
theorem dX10_addLine_25 : decode cX10_addLine 25 = .ok (.aload_n 0, 1) := by decide +kernel
theorem dX10_addLine_26 : decode cX10_addLine 26 = .ok (.aload_n 1, 1) := by decide +kernel
theorem dX10_addLine_27 : decode cX10_addLine 27 = .ok (.getfield 90, 3) := by decide +kernel
theorem dX10_addLine_30 : decode cX10_addLine 30 = .ok (.invokevirtual 93, 3) := by decide +kernel
theorem dX10_addLine_33 : decode cX10_addLine 33 = .ok (.aload_n 0, 1) := by decide +kernel
theorem dX10_addLine_34 : decode cX10_addLine 34 = .ok (.aload_n 1, 1) := by decide +kernel
theorem dX10_addLine_35 : decode cX10_addLine 35 = .ok (.getfield 97, 3) := by decide +kernel
theorem dX10_addLine_38 : decode cX10_addLine 38 = .ok (.invokevirtual 93, 3) := by decide +kernel
theorem dX10_addLine_41 : decode cX10_addLine 41 = .ok (.invokevirtual 100, 3) := by decide +kernel
theorem dX10_addLine_44 : decode cX10_addLine 44 = .ok (.iload 5, 2) := by decide +kernel
theorem dX10_addLine_46 : decode cX10_addLine 46 = .ok (.ifCond .ge 4, 3) := by decide +kernel
theorem dX10_addLine_49 : decode cX10_addLine 49 = .ok (.return_, 1) := by decide +kernel
theorem dX10_addLine_50 : decode cX10_addLine 50 = .ok (.iload_n 3, 1) := by decide +kernel
theorem dX10_addLine_51 : decode cX10_addLine 51 = .ok (.ifCond .eq 87, 3) := by decide +kernel
theorem dX10_addLine_54 : decode cX10_addLine 54 = .ok (.aload_n 0, 1) := by decide +kernel
theorem dX10_addLine_55 : decode cX10_addLine 55 = .ok (.getfield 44, 3) := by decide +kernel
theorem dX10_addLine_58 : decode cX10_addLine 58 = .ok (.bipush 6, 2) := by decide +kernel
theorem dX10_addLine_60 : decode cX10_addLine 60 = .ok (.if_icmp .ge 78, 3) := by decide +kernel
theorem dX10_addLine_63 : decode cX10_addLine 63 = .ok (.aload_n 0, 1) := by decide +kernel
theorem dX10_addLine_64 : decode cX10_addLine 64 = .ok (.getfield 50, 3) := by decide +kernel
theorem dX10_addLine_67 : decode cX10_addLine 67 = .ok (.iload 5, 2) := by decide +kernel
theorem dX10_addLine_69 : decode cX10_addLine 69 = .ok (.ishr, 1) := by decide +kernel
theorem dX10_addLine_70 : decode cX10_addLine 70 = .ok (.iconst 1, 1) := by decide +kernel
theorem dX10_addLine_71 : decode cX10_addLine 71 = .ok (.iand, 1) := by decide +kernel
theorem dX10_addLine_72 : decode cX10_addLine 72 = .ok (.iconst 1, 1) := by decide +kernel
theorem dX10_addLine_73 : decode cX10_addLine 73 = .ok (.if_icmp .ne 65, 3) := by decide +kernel
theorem dX10_addLine_76 : decode cX10_addLine 76 = .ok (.bipush 6, 2) := by decide +kernel
theorem dX10_addLine_78 : decode cX10_addLine 78 = .ok (.aload_n 0, 1) := by decide +kernel
theorem dX10_addLine_79 : decode cX10_addLine 79 = .ok (.getfield 44, 3) := by decide +kernel
theorem dX10_addLine_82 : decode cX10_addLine 82 = .ok (.iadd, 1) := by decide +kernel
theorem dX10_addLine_83 : decode cX10_addLine 83 = .ok (.istore 6, 2) := by decide +kernel
theorem dX10_addLine_85 : decode cX10_addLine 85 = .ok (.aload 4, 2) := by decide +kernel
theorem dX10_addLine_87 : decode cX10_addLine 87 = .ok (.getfield 83, 3) := by decide +kernel
theorem dX10_addLine_90 : decode cX10_addLine 90 = .ok (.iload 6, 2) := by decide +kernel
theorem dX10_addLine_92 : decode cX10_addLine 92 = .ok (.putfield 78, 3) := by decide +kernel
theorem dX10_addLine_95 : decode cX10_addLine 95 = .ok (.aload_n 0, 1) := by decide +kernel
theorem dX10_addLine_96 : decode cX10_addLine 96 = .ok (.getfield 27, 3) := by decide +kernel
theorem dX10_addLine_99 : decode cX10_addLine 99 = .ok (.iload 5, 2) := by decide +kernel
theorem dX10_addLine_101 : decode cX10_addLine 101 = .ok (.iload 6, 2) := by decide +kernel
theorem dX10_addLine_103 : decode cX10_addLine 103 = .ok (.iastore, 1) := by decide +kernel
theorem dX10_addLine_104 : decode cX10_addLine 104 = .ok (.aload_n 0, 1) := by decide +kernel
theorem dX10_addLine_105 : decode cX10_addLine 105 = .ok (.dup, 1) := by decide +kernel
theorem dX10_addLine_106 : decode cX10_addLine 106 = .ok (.getfield 44, 3) := by decide +kernel
theorem dX10_addLine_109 : decode cX10_addLine 109 = .ok (.iconst 1, 1) := by decide +kernel
theorem dX10_addLine_110 : decode cX10_addLine 110 = .ok (.iadd, 1) := by decide +kernel
theorem dX10_addLine_111 : decode cX10_addLine 111 = .ok (.putfield 44, 3) := by decide +kernel
theorem dX10_addLine_114 : decode cX10_addLine 114 = .ok (.aload_n 0, 1) := by decide +kernel
theorem dX10_addLine_115 : decode cX10_addLine 115 = .ok (.iconst 1, 1) := by decide +kernel
theorem dX10_addLine_116 : decode cX10_addLine 116 = .ok (.iload_n 2, 1) := by decide +kernel
theorem dX10_addLine_117 : decode cX10_addLine 117 = .ok (.invokevirtual 74, 3) := by decide +kernel
theorem dX10_addLine_120 : decode cX10_addLine 120 = .ok (.getfield 83, 3) := by decide +kernel
theorem dX10_addLine_123 : decode cX10_addLine 123 = .ok (.bipush 6, 2) := by decide +kernel
theorem dX10_addLine_125 : decode cX10_addLine 125 = .ok (.iload 5, 2) := by decide +kernel
theorem dX10_addLine_127 : decode cX10_addLine 127 = .ok (.iload 6, 2) := by decide +kernel
theorem dX10_addLine_129 : decode cX10_addLine 129 = .ok (.iconst (-1), 1) := by decide +kernel
theorem dX10_addLine_130 : decode cX10_addLine 130 = .ok (.ixor, 1) := by decide +kernel
theorem dX10_addLine_131 : decode cX10_addLine 131 = .ok (.iconst 0, 1) := by decide +kernel
theorem dX10_addLine_132 : decode cX10_addLine 132 = .ok (.invokevirtual 100, 3) := by decide +kernel
theorem dX10_addLine_135 : decode cX10_addLine 135 = .ok (.goto 12, 3) := by decide +kernel
theorem dX10_addLine_138 : decode cX10_addLine 138 = .ok (.aload_n 0, 1) := by decide +kernel
theorem dX10_addLine_139 : decode cX10_addLine 139 = .ok (.getfield 27, 3) := by decide +kernel
theorem dX10_addLine_142 : decode cX10_addLine 142 = .ok (.iload 5, 2) := by decide +kernel
theorem dX10_addLine_144 : decode cX10_addLine 144 = .ok (.iload 5, 2) := by decide +kernel
theorem dX10_addLine_146 : decode cX10_addLine 146 = .ok (.iastore, 1) := by decide +kernel
theorem dX10_addLine_147 : decode cX10_addLine 147 = .ok (.return_, 1) := by decide +kernel
def fX10_addLine_138 (x0 x5 : Int) (v : V_) : Option (Int × V_) :=
  ck_ (0 ≤ x5 ∧ x5 < 6) (
  lt_ (up_ v (x0 + 5) x5 x5) fun v12 =>
  some (0, v12))
def fX10_addLine (x0 x1 x2 x3 : Int) (v : V_) : Option (Int × V_) :=
  bd_ (fX10_addItem x0 0 x2 v) fun q1 =>
  lt_ (q1.2 x1 1) fun y3 =>
  bd_ (fX10_asRead x0 (q1.2 x1 2) q1.2) fun q5 =>
  bd_ (fX10_asRead x0 (q5.2 x1 3) q5.2) fun q6 =>
  bd_ (fX8_tell (q1.1 + 1) (q1.2 x1 0) y3 q5.1 q6.1 q6.2) fun q7 =>
  if 0 ≤ y3 then (
    if x3 = 0 then (
      fX10_addLine_138 x0 y3 q7.2)
    else (
      if 6 ≤ (q7.2 x0 5) then (
        fX10_addLine_138 x0 y3 q7.2)
      else (
        if (bA_ (sR_ (q7.2 x0 17) y3) 1) = 1 then (
          lt_ (wr_ (6 + (q7.2 x0 5))) fun y15 =>
          lt_ (up_ q7.2 (q1.1 + 1) 1 y15) fun v17 =>
          ck_ (0 ≤ y3 ∧ y3 < 6) (
          lt_ (up_ v17 (x0 + 5) y3 y15) fun v20 =>
          lt_ (up_ v20 x0 5 (wr_ ((v20 x0 5) + 1))) fun v21 =>
          bd_ (fX10_addItem x0 1 x2 v21) fun q22 =>
          bd_ (fX8_tell (q22.1 + 1) 6 y3 (bX_ y15 (-1)) 0 q22.2) fun q25 =>
          some (0, q25.2)))
        else (
          fX10_addLine_138 x0 y3 q7.2))))
  else (
    some (0, q7.2))
section
variable {E : En_} {p : Program} {l : Launch} {e : Env} {s : State} {m : MethodId} {args : Array Value} {below : List Frame} {meth : Method} {c : Code} {sz : Int}
theorem tX10_addLine_138 (C : MC_ E p s m c cX10_addLine 7 RX10) (hr : meth.sig.returnType = (none : Option FieldType)) (hlk : meth.locks = false) (hC : Cl_ E.2.2.2.2.2 sz) {out : Int × V_} (x0 x5 : Int) (v : V_) (T0 : (E.2.2.2.2.2 x0 ∧ ty_ x0 = 10 ∧ ln_ x0 = 0)) (h : fX10_addLine_138 x0 x5 v = some out) : G_ E p l e (rm_ 2 46) s m args below meth c 7 sz (Q_ E below args s sz sz 9 out.1 out.2) 138 [(0, (2, x0)), (5, (0, x5))] [] v sz := by
  rw [fX10_addLine_138] at h
  refine g_aload_n C (f := 0) dX10_addLine_138 0 rfl ?_
  have F10 := fX10_14 hC T0.1 T0.2.1
  refine g_getR C (k := 14) (o := 5) okX10 (by decide) kf_RX10_27 dX10_addLine_139 hC T0.1 T0.2.1 rfl rfl ?_
  refine g_iload C (i := 5) dX10_addLine_142 1 rfl ?_
  refine g_iload C (i := 5) dX10_addLine_144 1 rfl ?_
  obtain ⟨c11, h⟩ := ck_e h
  obtain ⟨v12, ev12, h⟩ := lt_e h
  refine g_iast C 6 dX10_addLine_146 (rg_ hC F10.1) F10.2.1 F10.2.2 c11 v12 ev12 ?_
  cases h
  exact g_vret C dX10_addLine_147 hr hlk
end
theorem cX10_addLine_ok (l : Launch) {E : En_} {sz : Int} (hC : Cl_ E.2.2.2.2.2 sz) {x0 x1 x2 x3 : Int} {v : V_} {out : Int × V_} (T0 : (E.2.2.2.2.2 x0 ∧ ty_ x0 = 10 ∧ ln_ x0 = 0)) (T1 : (E.2.2.2.2.2 x1 ∧ ty_ x1 = 8 ∧ ln_ x1 = 0)) (h : fX10_addLine x0 x1 x2 x3 v = some out) : Met l yX10_addLine [.code yX10_addLine cX10_addLine 7 (none : Option FieldType)] (rm_ 2 46) (Pc_ E sz v [(2, x0), (2, x1), (0, x2), (0, x3)]) (Qc_ E sz 9 out.1 out.2) 0 0 (fun q => E.1 < q) := by
  refine met_G0 RX10 (by decide +kernel) rfl (Nat.le_of_ble_eq_true rfl) ?_
  intro p e s m args below meth c C hr hlk
  rw [fX10_addLine] at h
  refine g_aload_n C (f := 0) dX10_addLine_0 0 rfl ?_
  refine g_iconst C (n := 0) dX10_addLine_1 (by decide) ?_
  refine g_iload_n C (f := 2) dX10_addLine_2 2 rfl ?_
  obtain ⟨q1, eq1, h⟩ := bd_e h
  refine g_cV C [(0, 0), (0, x2)] (cX10_addItem_ok l hC T0 eq1) okX10 T0.2.1 (rg_ hC T0.1) km_RX10_74 cv_X10_addItem rfl (by decide) rfl rfl (Nat.le_of_ble_eq_true rfl) dX10_addLine_3 ?_
  have F2 := rX10_addItem_ok hC T0 eq1
  refine g_astore C (i := 4) (ls' := [(4, (2, q1.1)), (0, (2, x0)), (1, (2, x1)), (2, (0, x2)), (3, (0, x3))]) dX10_addLine_6 (by decide) rfl ?_
  refine g_aload_n C (f := 1) dX10_addLine_8 2 rfl ?_
  refine g_getf C (k := 1) (kd := 0) okX8 (by decide) kf_RX10_78 dX10_addLine_9 (rg_ hC T1.1) T1.2.1 rfl ?_
  obtain ⟨y3, ey3, h⟩ := lt_e h
  refine g_set C ey3 ?_
  refine g_istore C (i := 5) (ls' := [(5, (0, y3)), (4, (2, q1.1)), (0, (2, x0)), (1, (2, x1)), (2, (0, x2)), (3, (0, x3))]) dX10_addLine_12 (by decide) rfl ?_
  refine g_aload C (i := 4) dX10_addLine_14 1 rfl ?_
  have F4 := fX1_0 hC F2.1 F2.2.1
  refine g_getR C (k := 0) (o := 1) okX1 (by decide) kf_RX10_83 dX10_addLine_16 hC F2.1 F2.2.1 rfl rfl ?_
  refine g_aload_n C (f := 1) dX10_addLine_19 3 rfl ?_
  refine g_getf C (k := 0) (kd := 0) okX8 (by decide) kf_RX10_87 dX10_addLine_20 (rg_ hC T1.1) T1.2.1 rfl ?_
  refine g_iload C (i := 5) dX10_addLine_23 0 rfl ?_
  refine g_aload_n C (f := 0) dX10_addLine_25 2 rfl ?_
  refine g_aload_n C (f := 1) dX10_addLine_26 3 rfl ?_
  refine g_getf C (k := 2) (kd := 0) okX8 (by decide) kf_RX10_90 dX10_addLine_27 (rg_ hC T1.1) T1.2.1 rfl ?_
  obtain ⟨q5, eq5, h⟩ := bd_e h
  refine g_cV C [(0, q1.2 x1 2)] (cX10_asRead_ok l hC T0 eq5) okX10 T0.2.1 (rg_ hC T0.1) km_RX10_93 cv_X10_asRead rfl (by decide) rfl rfl (Nat.le_of_ble_eq_true rfl) dX10_addLine_30 ?_
  refine g_aload_n C (f := 0) dX10_addLine_33 2 rfl ?_
  refine g_aload_n C (f := 1) dX10_addLine_34 3 rfl ?_
  refine g_getf C (k := 3) (kd := 0) okX8 (by decide) kf_RX10_97 dX10_addLine_35 (rg_ hC T1.1) T1.2.1 rfl ?_
  obtain ⟨q6, eq6, h⟩ := bd_e h
  refine g_cV C [(0, q5.2 x1 3)] (cX10_asRead_ok l hC T0 eq6) okX10 T0.2.1 (rg_ hC T0.1) km_RX10_93 cv_X10_asRead rfl (by decide) rfl rfl (Nat.le_of_ble_eq_true rfl) dX10_addLine_38 ?_
  obtain ⟨q7, eq7, h⟩ := bd_e h
  refine g_cV C [(0, q1.2 x1 0), (0, y3), (0, q5.1), (0, q6.1)] (cX8_tell_ok l hC F4 eq7) okX8 F4.2.1 (rg_ hC F4.1) km_RX10_100 cv_X8_tell rfl (by decide) rfl rfl (Nat.le_of_ble_eq_true rfl) dX10_addLine_41 ?_
  refine g_iload C (i := 5) dX10_addLine_44 0 rfl ?_
  refine g_if_ge C 50 dX10_addLine_46 rfl (fun c8 => ?_) (fun c8 => ?_)
  · replace h := if_t h c8
    refine g_iload_n C (f := 3) dX10_addLine_50 5 rfl ?_
    refine g_if_eq C 138 dX10_addLine_51 rfl (fun c9 => ?_) (fun c9 => ?_)
    · replace h := if_t h c9
      refine g_sub [2, 0] rfl rfl ?_
      exact tX10_addLine_138 C hr hlk hC _ _ _ T0 h
    · replace h := if_f h c9
      refine g_aload_n C (f := 0) dX10_addLine_54 2 rfl ?_
      refine g_getf C (k := 5) (kd := 0) okX10 (by decide) kf_RX10_44 dX10_addLine_55 (rg_ hC T0.1) T0.2.1 rfl ?_
      refine g_bipush C (n := 6) dX10_addLine_58 (by decide) ?_
      refine g_icmp_ge C 138 dX10_addLine_60 rfl (fun c13 => ?_) (fun c13 => ?_)
      · replace h := if_t h c13
        refine g_sub [2, 0] rfl rfl ?_
        exact tX10_addLine_138 C hr hlk hC _ _ _ T0 h
      · replace h := if_f h c13
        refine g_aload_n C (f := 0) dX10_addLine_63 2 rfl ?_
        refine g_getf C (k := 17) (kd := 0) okX10 (by decide) kf_RX10_50 dX10_addLine_64 (rg_ hC T0.1) T0.2.1 rfl ?_
        refine g_iload C (i := 5) dX10_addLine_67 0 rfl ?_
        refine g_ishr C dX10_addLine_69 ?_
        refine g_iconst C (n := 1) dX10_addLine_70 (by decide) ?_
        refine g_iand C dX10_addLine_71 ?_
        refine g_iconst C (n := 1) dX10_addLine_72 (by decide) ?_
        refine g_icmp_ne C 138 dX10_addLine_73 rfl (fun c14 => ?_) (fun c14 => ?_)
        · replace h := if_f h c14
          refine g_sub [2, 0] rfl rfl ?_
          exact tX10_addLine_138 C hr hlk hC _ _ _ T0 h
        · replace h := if_t h c14
          refine g_bipush C (n := 6) dX10_addLine_76 (by decide) ?_
          refine g_aload_n C (f := 0) dX10_addLine_78 2 rfl ?_
          refine g_getf C (k := 5) (kd := 0) okX10 (by decide) kf_RX10_44 dX10_addLine_79 (rg_ hC T0.1) T0.2.1 rfl ?_
          refine g_iadd C dX10_addLine_82 ?_
          obtain ⟨y15, ey15, h⟩ := lt_e h
          refine g_set C ey15 ?_
          refine g_istore C (i := 6) (ls' := [(6, (0, y15)), (5, (0, y3)), (4, (2, q1.1)), (0, (2, x0)), (1, (2, x1)), (2, (0, x2)), (3, (0, x3))]) dX10_addLine_83 (by decide) rfl ?_
          refine g_aload C (i := 4) dX10_addLine_85 2 rfl ?_
          have F16 := fX1_0 hC F2.1 F2.2.1
          refine g_getR C (k := 0) (o := 1) okX1 (by decide) kf_RX10_83 dX10_addLine_87 hC F2.1 F2.2.1 rfl rfl ?_
          refine g_iload C (i := 6) dX10_addLine_90 0 rfl ?_
          obtain ⟨v17, ev17, h⟩ := lt_e h
          refine g_putf C (k := 1) (kd := 0) okX8 (by decide) kf_RX10_78 dX10_addLine_92 (rg_ hC F16.1) F16.2.1 rfl rfl nvI (Or.inl rfl) v17 ev17 ?_
          refine g_aload_n C (f := 0) dX10_addLine_95 3 rfl ?_
          have F18 := fX10_14 hC T0.1 T0.2.1
          refine g_getR C (k := 14) (o := 5) okX10 (by decide) kf_RX10_27 dX10_addLine_96 hC T0.1 T0.2.1 rfl rfl ?_
          refine g_iload C (i := 5) dX10_addLine_99 1 rfl ?_
          refine g_iload C (i := 6) dX10_addLine_101 0 rfl ?_
          obtain ⟨c19, h⟩ := ck_e h
          obtain ⟨v20, ev20, h⟩ := lt_e h
          refine g_iast C 6 dX10_addLine_103 (rg_ hC F18.1) F18.2.1 F18.2.2 c19 v20 ev20 ?_
          refine g_aload_n C (f := 0) dX10_addLine_104 3 rfl ?_
          refine g_dup C (Nat.ne_of_beq_eq_false rfl) dX10_addLine_105 ?_
          refine g_getf C (k := 5) (kd := 0) okX10 (by decide) kf_RX10_44 dX10_addLine_106 (rg_ hC T0.1) T0.2.1 rfl ?_
          refine g_iconst C (n := 1) dX10_addLine_109 (by decide) ?_
          refine g_iadd C dX10_addLine_110 ?_
          obtain ⟨v21, ev21, h⟩ := lt_e h
          refine g_putf C (k := 5) (kd := 0) okX10 (by decide) kf_RX10_44 dX10_addLine_111 (rg_ hC T0.1) T0.2.1 rfl rfl nvI (Or.inl rfl) v21 ev21 ?_
          refine g_aload_n C (f := 0) dX10_addLine_114 3 rfl ?_
          refine g_iconst C (n := 1) dX10_addLine_115 (by decide) ?_
          refine g_iload_n C (f := 2) dX10_addLine_116 5 rfl ?_
          obtain ⟨q22, eq22, h⟩ := bd_e h
          refine g_cV C [(0, 1), (0, x2)] (cX10_addItem_ok l hC T0 eq22) okX10 T0.2.1 (rg_ hC T0.1) km_RX10_74 cv_X10_addItem rfl (by decide) rfl rfl (Nat.le_of_ble_eq_true rfl) dX10_addLine_117 ?_
          have F23 := rX10_addItem_ok hC T0 eq22
          have F24 := fX1_0 hC F23.1 F23.2.1
          refine g_getR C (k := 0) (o := 1) okX1 (by decide) kf_RX10_83 dX10_addLine_120 hC F23.1 F23.2.1 rfl rfl ?_
          refine g_bipush C (n := 6) dX10_addLine_123 (by decide) ?_
          refine g_iload C (i := 5) dX10_addLine_125 1 rfl ?_
          refine g_iload C (i := 6) dX10_addLine_127 0 rfl ?_
          refine g_iconst C (n := (-1)) dX10_addLine_129 (by decide) ?_
          refine g_ixor C dX10_addLine_130 ?_
          refine g_iconst C (n := 0) dX10_addLine_131 (by decide) ?_
          obtain ⟨q25, eq25, h⟩ := bd_e h
          refine g_cV C [(0, 6), (0, y3), (0, bX_ y15 (-1)), (0, 0)] (cX8_tell_ok l hC F24 eq25) okX8 F24.2.1 (rg_ hC F24.1) km_RX10_100 cv_X8_tell rfl (by decide) rfl rfl (Nat.le_of_ble_eq_true rfl) dX10_addLine_132 ?_
          refine g_goto C 147 dX10_addLine_135 rfl ?_
          cases h
          exact g_vret C dX10_addLine_147 hr hlk
  · replace h := if_f h c8
    cases h
    exact g_vret C dX10_addLine_49 hr hlk
