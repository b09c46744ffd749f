theorem dX4_chooseTraces_0 : decode cX4_chooseTraces 0 = .ok (.aload_n 0, 1) := by decide +kernel
theorem dX4_chooseTraces_1 : decode cX4_chooseTraces 1 = .ok (.iconst 0, 1) := by decide +kernel
theorem dX4_chooseTraces_2 : decode cX4_chooseTraces 2 = .ok (.putfield 35, 3) := by decide +kernel
theorem dX4_chooseTraces_5 : decode cX4_chooseTraces 5 = .ok (.aload_n 0, 1) := by decide +kernel
theorem dX4_chooseTraces_6 : decode cX4_chooseTraces 6 = .ok (.getfield 17, 3) := by decide +kernel
theorem dX4_chooseTraces_9 : decode cX4_chooseTraces 9 = .ok (.iconst (-1), 1) := by decide +kernel
theorem dX4_chooseTraces_10 : decode cX4_chooseTraces 10 = .ok (.invokestatic 76, 3) := by decide +kernel
theorem dX4_chooseTraces_13 : decode cX4_chooseTraces 13 = .ok (.aload_n 0, 1) := by decide +kernel
theorem dX4_chooseTraces_14 : decode cX4_chooseTraces 14 = .ok (.aload_n 1, 1) := by decide +kernel
theorem dX4_chooseTraces_15 : decode cX4_chooseTraces 15 = .ok (.aload_n 2, 1) := by decide +kernel
theorem dX4_chooseTraces_16 : decode cX4_chooseTraces 16 = .ok (.invokevirtual 82, 3) := by decide +kernel
theorem dX4_chooseTraces_19 : decode cX4_chooseTraces 19 = .ok (.istore_n 3, 1) := by decide +kernel
theorem dX4_chooseTraces_20 : decode cX4_chooseTraces 20 = .ok (.iconst 0, 1) := by decide +kernel
theorem dX4_chooseTraces_21 : decode cX4_chooseTraces 21 = .ok (.istore 4, 2) := by decide +kernel
theorem dX4_chooseTraces_23 : decode cX4_chooseTraces 23 = .ok (.iload 4, 2) := by decide +kernel
theorem dX4_chooseTraces_25 : decode cX4_chooseTraces 25 = .ok (.bipush 8, 2) := by decide +kernel
theorem dX4_chooseTraces_27 : decode cX4_chooseTraces 27 = .ok (.if_icmp .ge 108, 3) := by decide +kernel
theorem dX4_chooseTraces_30 : decode cX4_chooseTraces 30 = .ok (.iload_n 3, 1) := by decide +kernel
theorem dX4_chooseTraces_31 : decode cX4_chooseTraces 31 = .ok (.iconst (-1), 1) := by decide +kernel
theorem dX4_chooseTraces_32 : decode cX4_chooseTraces 32 = .ok (.if_icmp .eq 103, 3) := by decide +kernel
theorem dX4_chooseTraces_35 : decode cX4_chooseTraces 35 = .ok (.aload_n 0, 1) := by decide +kernel
theorem dX4_chooseTraces_36 : decode cX4_chooseTraces 36 = .ok (.getfield 11, 3) := by decide +kernel
theorem dX4_chooseTraces_39 : decode cX4_chooseTraces 39 = .ok (.iload 4, 2) := by decide +kernel
theorem dX4_chooseTraces_41 : decode cX4_chooseTraces 41 = .ok (.aaload, 1) := by decide +kernel
theorem dX4_chooseTraces_42 : decode cX4_chooseTraces 42 = .ok (.astore 5, 2) := by decide +kernel
theorem dX4_chooseTraces_44 : decode cX4_chooseTraces 44 = .ok (.aload 5, 2) := by decide +kernel
theorem dX4_chooseTraces_46 : decode cX4_chooseTraces 46 = .ok (.iload_n 3, 1) := by decide +kernel
theorem dX4_chooseTraces_47 : decode cX4_chooseTraces 47 = .ok (.invokevirtual 86, 3) := by decide +kernel
theorem dX4_chooseTraces_50 : decode cX4_chooseTraces 50 = .ok (.aload_n 0, 1) := by decide +kernel
theorem dX4_chooseTraces_51 : decode cX4_chooseTraces 51 = .ok (.getfield 17, 3) := by decide +kernel
theorem dX4_chooseTraces_54 : decode cX4_chooseTraces 54 = .ok (.iload_n 3, 1) := by decide +kernel
theorem dX4_chooseTraces_55 : decode cX4_chooseTraces 55 = .ok (.iload 4, 2) := by decide +kernel
theorem dX4_chooseTraces_57 : decode cX4_chooseTraces 57 = .ok (.iastore, 1) := by decide +kernel
theorem dX4_chooseTraces_58 : decode cX4_chooseTraces 58 = .ok (.aload_n 0, 1) := by decide +kernel
theorem dX4_chooseTraces_59 : decode cX4_chooseTraces 59 = .ok (.dup, 1) := by decide +kernel
theorem dX4_chooseTraces_60 : decode cX4_chooseTraces 60 = .ok (.getfield 35, 3) := by decide +kernel
theorem dX4_chooseTraces_63 : decode cX4_chooseTraces 63 = .ok (.iconst 1, 1) := by decide +kernel
theorem dX4_chooseTraces_64 : decode cX4_chooseTraces 64 = .ok (.iadd, 1) := by decide +kernel
theorem dX4_chooseTraces_65 : decode cX4_chooseTraces 65 = .ok (.putfield 35, 3) := by decide +kernel
theorem dX4_chooseTraces_68 : decode cX4_chooseTraces 68 = .ok (.aload_n 0, 1) := by decide +kernel
theorem dX4_chooseTraces_69 : decode cX4_chooseTraces 69 = .ok (.aload 5, 2) := by decide +kernel
theorem dX4_chooseTraces_71 : decode cX4_chooseTraces 71 = .ok (.iload 4, 2) := by decide +kernel
theorem dX4_chooseTraces_73 : decode cX4_chooseTraces 73 = .ok (.aload_n 1, 1) := by decide +kernel
theorem dX4_chooseTraces_74 : decode cX4_chooseTraces 74 = .ok (.aload_n 2, 1) := by decide +kernel
theorem dX4_chooseTraces_75 : decode cX4_chooseTraces 75 = .ok (.invokevirtual 90, 3) := by decide +kernel
theorem dX4_chooseTraces_78 : decode cX4_chooseTraces 78 = .ok (.aload_n 0, 1) := by decide +kernel
theorem dX4_chooseTraces_79 : decode cX4_chooseTraces 79 = .ok (.aload 5, 2) := by decide +kernel
theorem dX4_chooseTraces_81 : decode cX4_chooseTraces 81 = .ok (.iload 4, 2) := by decide +kernel
theorem dX4_chooseTraces_83 : decode cX4_chooseTraces 83 = .ok (.aload_n 1, 1) := by decide +kernel
theorem dX4_chooseTraces_84 : decode cX4_chooseTraces 84 = .ok (.aload_n 2, 1) := by decide +kernel
theorem dX4_chooseTraces_85 : decode cX4_chooseTraces 85 = .ok (.invokevirtual 94, 3) := by decide +kernel
theorem dX4_chooseTraces_88 : decode cX4_chooseTraces 88 = .ok (.iconst 0, 1) := by decide +kernel
theorem dX4_chooseTraces_89 : decode cX4_chooseTraces 89 = .ok (.istore 6, 2) := by decide +kernel
theorem dX4_chooseTraces_91 : decode cX4_chooseTraces 91 = .ok (.iload 6, 2) := by decide +kernel
theorem dX4_chooseTraces_93 : decode cX4_chooseTraces 93 = .ok (.aload 5, 2) := by decide +kernel
theorem dX4_chooseTraces_95 : decode cX4_chooseTraces 95 = .ok (.getfield 97, 3) := by decide +kernel
theorem dX4_chooseTraces_98 : decode cX4_chooseTraces 98 = .ok (.if_icmp .ge 24, 3) := by decide +kernel
theorem dX4_chooseTraces_101 : decode cX4_chooseTraces 101 = .ok (.aload_n 0, 1) := by decide +kernel
theorem dX4_chooseTraces_102 : decode cX4_chooseTraces 102 = .ok (.getfield 21, 3) := by decide +kernel
theorem dX4_chooseTraces_105 : decode cX4_chooseTraces 105 = .ok (.aload 5, 2) := by decide +kernel
theorem dX4_chooseTraces_107 : decode cX4_chooseTraces 107 = .ok (.getfield 98, 3) := by decide +kernel
theorem dX4_chooseTraces_110 : decode cX4_chooseTraces 110 = .ok (.iload 6, 2) := by decide +kernel
theorem dX4_chooseTraces_112 : decode cX4_chooseTraces 112 = .ok (.iaload, 1) := by decide +kernel
theorem dX4_chooseTraces_113 : decode cX4_chooseTraces 113 = .ok (.iload 6, 2) := by decide +kernel
theorem dX4_chooseTraces_115 : decode cX4_chooseTraces 115 = .ok (.iastore, 1) := by decide +kernel
theorem dX4_chooseTraces_116 : decode cX4_chooseTraces 116 = .ok (.iinc 6 1, 3) := by decide +kernel
theorem dX4_chooseTraces_119 : decode cX4_chooseTraces 119 = .ok (.goto (-28), 3) := by decide +kernel
theorem dX4_chooseTraces_122 : decode cX4_chooseTraces 122 = .ok (.aload_n 0, 1) := by decide +kernel
theorem dX4_chooseTraces_123 : decode cX4_chooseTraces 123 = .ok (.aload_n 1, 1) := by decide +kernel
theorem dX4_chooseTraces_124 : decode cX4_chooseTraces 124 = .ok (.aload_n 2, 1) := by decide +kernel
theorem dX4_chooseTraces_125 : decode cX4_chooseTraces 125 = .ok (.invokevirtual 82, 3) := by decide +kernel
theorem dX4_chooseTraces_128 : decode cX4_chooseTraces 128 = .ok (.istore_n 3, 1) := by decide +kernel
theorem dX4_chooseTraces_129 : decode cX4_chooseTraces 129 = .ok (.iinc 4 1, 3) := by decide +kernel
theorem dX4_chooseTraces_132 : decode cX4_chooseTraces 132 = .ok (.goto (-109), 3) := by decide +kernel
theorem dX4_chooseTraces_135 : decode cX4_chooseTraces 135 = .ok (.return_, 1) := by decide +kernel
def fX4_chooseTraces_91 (k23 : Int → Int → Int → Int → Int → V_ → Option (Int × V_)) : Nat → Int → Int → Int → Int → Int → Int → V_ → Option (Int × V_)
  | 0, _, _, _, _, _, _, _ => none
  | n + 1, x0, x1, x2, x4, x5, x6, v =>
    if (v x5 1) ≤ x6 then (
      bd_ (fX4_mostBegun x0 x1 x2 v) fun q20 =>
      lt_ (wr_ (x4 + 1)) fun y21 =>
      k23 x0 x1 x2 q20.1 y21 q20.2)
    else (
      ck_ (0 ≤ x6 ∧ x6 < 4) (
      ck_ (0 ≤ v (x5 + 1) x6 ∧ v (x5 + 1) x6 < 8) (
      lt_ (up_ v (x0 + 3) (v (x5 + 1) x6) x6) fun v26 =>
      lt_ (wr_ (x6 + 1)) fun y27 =>
      (fX4_chooseTraces_91 k23 n) x0 x1 x2 x4 x5 y27 v26)))
def fX4_chooseTraces_23 : Nat → Int → Int → Int → Int → Int → V_ → Option (Int × V_)
  | 0, _, _, _, _, _, _ => none
  | n + 1, x0, x1, x2, x3, x4, v =>
    if 8 ≤ x4 then (
      some (0, v))
    else (
      if x3 = (-1) then (
        some (0, v))
      else (
        ck_ (0 ≤ x4 ∧ x4 < 8) (
        lt_ ((x0 + 1) + (10 + 75 * x4)) fun y10 =>
        bd_ (fX10_beginWith y10 x3 v) fun q12 =>
        ck_ (0 ≤ x3 ∧ x3 < 8) (
        lt_ (up_ q12.2 (x0 + 2) x3 x4) fun v15 =>
        lt_ (up_ v15 x0 0 (wr_ ((v15 x0 0) + 1))) fun v16 =>
        bd_ (fX4_growAtEnd x0 y10 x4 x1 x2 v16) fun q17 =>
        bd_ (fX4_growAtBeginning x0 y10 x4 x1 x2 q17.2) fun q18 =>
        fX4_chooseTraces_91 (fX4_chooseTraces_23 n) fu_ x0 x1 x2 x4 y10 0 q18.2))))
def fX4_chooseTraces (x0 x1 x2 : Int) (v : V_) : Option (Int × V_) :=
  lt_ (up_ v x0 0 0) fun v1 =>
  lt_ (fl_ v1 (x0 + 2) 8 (-1)) fun v3 =>
  bd_ (fX4_mostBegun x0 x1 x2 v3) fun q4 =>
  fX4_chooseTraces_23 fu_ x0 x1 x2 q4.1 0 q4.2
section
variable {E : En_} {p : Program} {l : Launch} {e : Env} {s : State} {m : MethodId} {args : Array Value} {below : List Frame} {meth : Method} {c : Code} {sz : Int}
theorem tX4_chooseTraces_91 (C : MC_ E p s m c cX4_chooseTraces 7 RX4) (hr : meth.sig.returnType = (none : Option FieldType)) (hlk : meth.locks = false) (hC : Cl_ E.2.2.2.2.2 sz) {out : Int × V_} (k23 : Int → Int → Int → Int → Int → V_ → Option (Int × V_)) (H_23 : ∀ (x0 x1 x2 x3 x4 : Int) (v : V_), (E.2.2.2.2.2 x0 ∧ ty_ x0 = 4 ∧ ln_ x0 = 0) → (E.2.2.2.2.2 x1 ∧ ty_ x1 = 5 ∧ ln_ x1 = 0) → (E.2.2.2.2.2 x2 ∧ ty_ x2 = 7 ∧ ln_ x2 = 0) → k23 x0 x1 x2 x3 x4 v = some out → G_ E p l e (rm_ 3 77) s m args below meth c 7 sz (Q_ E below args s sz sz 9 out.1 out.2) 23 [(0, (2, x0)), (1, (2, x1)), (2, (2, x2)), (3, (0, x3)), (4, (0, x4))] [] v sz) : ∀ (n : Nat) (x0 x1 x2 x4 x5 x6 : Int) (v : V_), (E.2.2.2.2.2 x0 ∧ ty_ x0 = 4 ∧ ln_ x0 = 0) → (E.2.2.2.2.2 x1 ∧ ty_ x1 = 5 ∧ ln_ x1 = 0) → (E.2.2.2.2.2 x2 ∧ ty_ x2 = 7 ∧ ln_ x2 = 0) → (E.2.2.2.2.2 x5 ∧ ty_ x5 = 10 ∧ ln_ x5 = 0) → fX4_chooseTraces_91 k23 n x0 x1 x2 x4 x5 x6 v = some out → G_ E p l e (rm_ 3 77) s m args below meth c 7 sz (Q_ E below args s sz sz 9 out.1 out.2) 91 [(0, (2, x0)), (1, (2, x1)), (2, (2, x2)), (4, (0, x4)), (5, (2, x5)), (6, (0, x6))] [] v sz := by
  intro n
  induction n with
  | zero =>
    intro x0 x1 x2 x4 x5 x6 v T0 T1 T2 T5 h
    cases h
  | succ n H_91 =>
    intro x0 x1 x2 x4 x5 x6 v T0 T1 T2 T5 h
    rw [fX4_chooseTraces_91] at h
    refine g_iload C (i := 6) dX4_chooseTraces_91 5 rfl ?_
    refine g_aload C (i := 5) dX4_chooseTraces_93 4 rfl ?_
    refine g_getf C (k := 1) (kd := 0) okX10 (by decide) kf_RX4_97 dX4_chooseTraces_95 (rg_ hC T5.1) T5.2.1 rfl ?_
    refine g_icmp_ge C 122 dX4_chooseTraces_98 rfl (fun c19 => ?_) (fun c19 => ?_)
    · replace h := if_t h c19
      refine g_aload_n C (f := 0) dX4_chooseTraces_122 0 rfl ?_
      refine g_aload_n C (f := 1) dX4_chooseTraces_123 1 rfl ?_
      refine g_aload_n C (f := 2) dX4_chooseTraces_124 2 rfl ?_
      obtain ⟨q20, eq20, h⟩ := bd_e h
      refine g_cV C [(2, x1), (2, x2)] (cX4_mostBegun_ok l hC T0 T1 T2 eq20) okX4 T0.2.1 (rg_ hC T0.1) km_RX4_82 cv_X4_mostBegun rfl (by decide) rfl rfl (Nat.le_of_ble_eq_true rfl) dX4_chooseTraces_125 ?_
      refine g_istore_n C (f := 3) (ls' := [(3, (0, q20.1)), (0, (2, x0)), (1, (2, x1)), (2, (2, x2)), (4, (0, x4)), (5, (2, x5)), (6, (0, x6))]) dX4_chooseTraces_128 (by decide) rfl ?_
      obtain ⟨y21, ey21, h⟩ := lt_e h
      refine g_iincx C (ls' := [(4, (0, y21)), (3, (0, q20.1)), (0, (2, x0)), (1, (2, x1)), (2, (2, x2)), (5, (2, x5)), (6, (0, x6))]) ey21 dX4_chooseTraces_129 4 rfl (by decide) (by decide) rfl ?_
      refine g_goto C 23 dX4_chooseTraces_132 rfl ?_
      refine g_sub [2, 3, 4, 1, 0] rfl rfl ?_
      exact H_23 _ _ _ _ _ _ T0 T1 T2 h
    · replace h := if_f h c19
      refine g_aload_n C (f := 0) dX4_chooseTraces_101 0 rfl ?_
      have F22 := fX4_4 hC T0.1 T0.2.1
      refine g_getR C (k := 4) (o := 3) okX4 (by decide) kf_RX4_21 dX4_chooseTraces_102 hC T0.1 T0.2.1 rfl rfl ?_
      refine g_aload C (i := 5) dX4_chooseTraces_105 4 rfl ?_
      have F23 := fX10_0 hC T5.1 T5.2.1
      refine g_getR C (k := 0) (o := 1) okX10 (by decide) kf_RX4_98 dX4_chooseTraces_107 hC T5.1 T5.2.1 rfl rfl ?_
      refine g_iload C (i := 6) dX4_chooseTraces_110 5 rfl ?_
      obtain ⟨c24, h⟩ := ck_e h
      refine g_iald C 4 dX4_chooseTraces_112 (rg_ hC F23.1) F23.2.1 F23.2.2 c24 ?_
      refine g_iload C (i := 6) dX4_chooseTraces_113 5 rfl ?_
      obtain ⟨c25, h⟩ := ck_e h
      obtain ⟨v26, ev26, h⟩ := lt_e h
      refine g_iast C 8 dX4_chooseTraces_115 (rg_ hC F22.1) F22.2.1 F22.2.2 c25 v26 ev26 ?_
      obtain ⟨y27, ey27, h⟩ := lt_e h
      refine g_iincx C (ls' := [(6, (0, y27)), (0, (2, x0)), (1, (2, x1)), (2, (2, x2)), (4, (0, x4)), (5, (2, x5))]) ey27 dX4_chooseTraces_116 5 rfl (by decide) (by decide) rfl ?_
      refine g_goto C 91 dX4_chooseTraces_119 rfl ?_
      refine g_sub [1, 2, 3, 4, 5, 0] rfl rfl ?_
      exact H_91 _ _ _ _ _ _ _ T0 T1 T2 T5 h
theorem tX4_chooseTraces_23 (C : MC_ E p s m c cX4_chooseTraces 7 RX4) (hr : meth.sig.returnType = (none : Option FieldType)) (hlk : meth.locks = false) (hC : Cl_ E.2.2.2.2.2 sz) {out : Int × V_} : ∀ (n : Nat) (x0 x1 x2 x3 x4 : Int) (v : V_), (E.2.2.2.2.2 x0 ∧ ty_ x0 = 4 ∧ ln_ x0 = 0) → (E.2.2.2.2.2 x1 ∧ ty_ x1 = 5 ∧ ln_ x1 = 0) → (E.2.2.2.2.2 x2 ∧ ty_ x2 = 7 ∧ ln_ x2 = 0) → fX4_chooseTraces_23 n x0 x1 x2 x3 x4 v = some out → G_ E p l e (rm_ 3 77) s m args below meth c 7 sz (Q_ E below args s sz sz 9 out.1 out.2) 23 [(0, (2, x0)), (1, (2, x1)), (2, (2, x2)), (3, (0, x3)), (4, (0, x4))] [] v sz := by
  intro n
  induction n with
  | zero =>
    intro x0 x1 x2 x3 x4 v T0 T1 T2 h
    cases h
  | succ n H_23 =>
    intro x0 x1 x2 x3 x4 v T0 T1 T2 h
    rw [fX4_chooseTraces_23] at h
    refine g_iload C (i := 4) dX4_chooseTraces_23 4 rfl ?_
    refine g_bipush C (n := 8) dX4_chooseTraces_25 (by decide) ?_
    refine g_icmp_ge C 135 dX4_chooseTraces_27 rfl (fun c5 => ?_) (fun c5 => ?_)
    · replace h := if_t h c5
      cases h
      exact g_vret C dX4_chooseTraces_135 hr hlk
    · replace h := if_f h c5
      refine g_iload_n C (f := 3) dX4_chooseTraces_30 3 rfl ?_
      refine g_iconst C (n := (-1)) dX4_chooseTraces_31 (by decide) ?_
      refine g_icmp_eq C 135 dX4_chooseTraces_32 rfl (fun c6 => ?_) (fun c6 => ?_)
      · replace h := if_t h c6
        cases h
        exact g_vret C dX4_chooseTraces_135 hr hlk
      · replace h := if_f h c6
        refine g_aload_n C (f := 0) dX4_chooseTraces_35 0 rfl ?_
        have F7 := fX4_2 hC T0.1 T0.2.1
        refine g_getR C (k := 2) (o := 1) okX4 (by decide) kf_RX4_11 dX4_chooseTraces_36 hC T0.1 T0.2.1 rfl rfl ?_
        refine g_iload C (i := 4) dX4_chooseTraces_39 4 rfl ?_
        obtain ⟨c8, h⟩ := ck_e h
        have F9 := fE_traces (i := x4) hC F7.1 F7.2.1 F7.2.2 c8
        refine g_aald C 27 8 10 75 dX4_chooseTraces_41 hC F7.1 F7.2.1 F7.2.2 c8 (by decide) oA_traces ?_
        obtain ⟨y10, ey10, h⟩ := lt_e h
        refine g_set C ey10 ?_
        have F11 : (E.2.2.2.2.2 y10 ∧ ty_ y10 = 10 ∧ ln_ y10 = 0) := by rw [ey10]; exact F9
        refine g_astore C (i := 5) (ls' := [(5, (2, y10)), (0, (2, x0)), (1, (2, x1)), (2, (2, x2)), (3, (0, x3)), (4, (0, x4))]) dX4_chooseTraces_42 (by decide) rfl ?_
        refine g_aload C (i := 5) dX4_chooseTraces_44 0 rfl ?_
        refine g_iload_n C (f := 3) dX4_chooseTraces_46 4 rfl ?_
        obtain ⟨q12, eq12, h⟩ := bd_e h
        refine g_cV C [(0, x3)] (cX10_beginWith_ok l hC F11 eq12) okX10 F11.2.1 (rg_ hC F11.1) km_RX4_86 cv_X10_beginWith rfl (by decide) rfl rfl (Nat.le_of_ble_eq_true rfl) dX4_chooseTraces_47 ?_
        refine g_aload_n C (f := 0) dX4_chooseTraces_50 1 rfl ?_
        have F13 := fX4_3 hC T0.1 T0.2.1
        refine g_getR C (k := 3) (o := 2) okX4 (by decide) kf_RX4_17 dX4_chooseTraces_51 hC T0.1 T0.2.1 rfl rfl ?_
        refine g_iload_n C (f := 3) dX4_chooseTraces_54 4 rfl ?_
        refine g_iload C (i := 4) dX4_chooseTraces_55 5 rfl ?_
        obtain ⟨c14, h⟩ := ck_e h
        obtain ⟨v15, ev15, h⟩ := lt_e h
        refine g_iast C 8 dX4_chooseTraces_57 (rg_ hC F13.1) F13.2.1 F13.2.2 c14 v15 ev15 ?_
        refine g_aload_n C (f := 0) dX4_chooseTraces_58 1 rfl ?_
        refine g_dup C (Nat.ne_of_beq_eq_false rfl) dX4_chooseTraces_59 ?_
        refine g_getf C (k := 0) (kd := 0) okX4 (by decide) kf_RX4_35 dX4_chooseTraces_60 (rg_ hC T0.1) T0.2.1 rfl ?_
        refine g_iconst C (n := 1) dX4_chooseTraces_63 (by decide) ?_
        refine g_iadd C dX4_chooseTraces_64 ?_
        obtain ⟨v16, ev16, h⟩ := lt_e h
        refine g_putf C (k := 0) (kd := 0) okX4 (by decide) kf_RX4_35 dX4_chooseTraces_65 (rg_ hC T0.1) T0.2.1 rfl rfl nvI (Or.inl rfl) v16 ev16 ?_
        refine g_aload_n C (f := 0) dX4_chooseTraces_68 1 rfl ?_
        refine g_aload C (i := 5) dX4_chooseTraces_69 0 rfl ?_
        refine g_iload C (i := 4) dX4_chooseTraces_71 5 rfl ?_
        refine g_aload_n C (f := 1) dX4_chooseTraces_73 2 rfl ?_
        refine g_aload_n C (f := 2) dX4_chooseTraces_74 3 rfl ?_
        obtain ⟨q17, eq17, h⟩ := bd_e h
        refine g_cV C [(2, y10), (0, x4), (2, x1), (2, x2)] (cX4_growAtEnd_ok l hC T0 F11 T1 T2 eq17) okX4 T0.2.1 (rg_ hC T0.1) km_RX4_90 cv_X4_growAtEnd rfl (by decide) rfl rfl (Nat.le_of_ble_eq_true rfl) dX4_chooseTraces_75 ?_
        refine g_aload_n C (f := 0) dX4_chooseTraces_78 1 rfl ?_
        refine g_aload C (i := 5) dX4_chooseTraces_79 0 rfl ?_
        refine g_iload C (i := 4) dX4_chooseTraces_81 5 rfl ?_
        refine g_aload_n C (f := 1) dX4_chooseTraces_83 2 rfl ?_
        refine g_aload_n C (f := 2) dX4_chooseTraces_84 3 rfl ?_
        obtain ⟨q18, eq18, h⟩ := bd_e h
        refine g_cV C [(2, y10), (0, x4), (2, x1), (2, x2)] (cX4_growAtBeginning_ok l hC T0 F11 T1 T2 eq18) okX4 T0.2.1 (rg_ hC T0.1) km_RX4_94 cv_X4_growAtBeginning rfl (by decide) rfl rfl (Nat.le_of_ble_eq_true rfl) dX4_chooseTraces_85 ?_
        refine g_iconst C (n := 0) dX4_chooseTraces_88 (by decide) ?_
        refine g_istore C (i := 6) (ls' := [(6, (0, 0)), (5, (2, y10)), (0, (2, x0)), (1, (2, x1)), (2, (2, x2)), (3, (0, x3)), (4, (0, x4))]) dX4_chooseTraces_89 (by decide) rfl ?_
        refine g_sub [2, 3, 4, 6, 1, 0] rfl rfl ?_
        exact tX4_chooseTraces_91 C hr hlk hC _ H_23 _ _ _ _ _ _ _ _ T0 T1 T2 F11 h
end
theorem cX4_chooseTraces_ok (l : Launch) {E : En_} {sz : Int} (hC : Cl_ E.2.2.2.2.2 sz) {x0 x1 x2 : Int} {v : V_} {out : Int × V_} (T0 : (E.2.2.2.2.2 x0 ∧ ty_ x0 = 4 ∧ ln_ x0 = 0)) (T1 : (E.2.2.2.2.2 x1 ∧ ty_ x1 = 5 ∧ ln_ x1 = 0)) (T2 : (E.2.2.2.2.2 x2 ∧ ty_ x2 = 7 ∧ ln_ x2 = 0)) (h : fX4_chooseTraces x0 x1 x2 v = some out) : Met l yX4_chooseTraces [.code yX4_chooseTraces cX4_chooseTraces 7 (none : Option FieldType)] (rm_ 3 77) (Pc_ E sz v [(2, x0), (2, x1), (2, x2)]) (Qc_ E sz 9 out.1 out.2) 0 0 (fun q => E.1 < q) := by
  refine met_G0 RX4 (by decide +kernel) rfl (Nat.le_of_ble_eq_true rfl) ?_
  intro p e s m args below meth c C hr hlk
  rw [fX4_chooseTraces] at h
  refine g_aload_n C (f := 0) dX4_chooseTraces_0 0 rfl ?_
  refine g_iconst C (n := 0) dX4_chooseTraces_1 (by decide) ?_
  obtain ⟨v1, ev1, h⟩ := lt_e h
  refine g_putf C (k := 0) (kd := 0) okX4 (by decide) kf_RX4_35 dX4_chooseTraces_2 (rg_ hC T0.1) T0.2.1 rfl rfl nvI (Or.inl rfl) v1 ev1 ?_
  refine g_aload_n C (f := 0) dX4_chooseTraces_5 0 rfl ?_
  have F2 := fX4_3 hC T0.1 T0.2.1
  refine g_getR C (k := 3) (o := 2) okX4 (by decide) kf_RX4_17 dX4_chooseTraces_6 hC T0.1 T0.2.1 rfl rfl ?_
  refine g_iconst C (n := (-1)) dX4_chooseTraces_9 (by decide) ?_
  obtain ⟨v3, ev3, h⟩ := lt_e h
  refine g_cS C [(2, x0 + 2), (0, (-1))] (c_fillI l (rg_ hC F2.1) F2.2.1 F2.2.2 (by decide)) km_RX4_76 cs_FillI rfl (by decide) rfl rfl (Nat.le_of_ble_eq_true rfl) dX4_chooseTraces_10 ?_
  refine g_setv C ev3 ?_
  refine g_aload_n C (f := 0) dX4_chooseTraces_13 0 rfl ?_
  refine g_aload_n C (f := 1) dX4_chooseTraces_14 1 rfl ?_
  refine g_aload_n C (f := 2) dX4_chooseTraces_15 2 rfl ?_
  obtain ⟨q4, eq4, h⟩ := bd_e h
  refine g_cV C [(2, x1), (2, x2)] (cX4_mostBegun_ok l hC T0 T1 T2 eq4) okX4 T0.2.1 (rg_ hC T0.1) km_RX4_82 cv_X4_mostBegun rfl (by decide) rfl rfl (Nat.le_of_ble_eq_true rfl) dX4_chooseTraces_16 ?_
  refine g_istore_n C (f := 3) (ls' := [(3, (0, q4.1)), (0, (2, x0)), (1, (2, x1)), (2, (2, x2))]) dX4_chooseTraces_19 (by decide) rfl ?_
  refine g_iconst C (n := 0) dX4_chooseTraces_20 (by decide) ?_
  refine g_istore C (i := 4) (ls' := [(4, (0, 0)), (3, (0, q4.1)), (0, (2, x0)), (1, (2, x1)), (2, (2, x2))]) dX4_chooseTraces_21 (by decide) rfl ?_
  refine g_sub [2, 3, 4, 1, 0] rfl rfl ?_
  exact tX4_chooseTraces_23 C hr hlk hC _ _ _ _ _ _ _ T0 T1 T2 h
theorem dX4_comesFromElsewhere_0 : decode cX4_comesFromElsewhere 0 = .ok (.iconst 0, 1) := by decide +kernel
theorem dX4_comesFromElsewhere_1 : decode cX4_comesFromElsewhere 1 = .ok (.istore_n 3, 1) := by decide +kernel
theorem dX4_comesFromElsewhere_2 : decode cX4_comesFromElsewhere 2 = .ok (.iload_n 3, 1) := by decide +kernel
theorem dX4_comesFromElsewhere_3 : decode cX4_comesFromElsewhere 3 = .ok (.aload_n 2, 1) := by decide +kernel
theorem dX4_comesFromElsewhere_4 : decode cX4_comesFromElsewhere 4 = .ok (.getfield 101, 3) := by decide +kernel
theorem dX4_comesFromElsewhere_7 : decode cX4_comesFromElsewhere 7 = .ok (.if_icmp .ge 48, 3) := by decide +kernel
theorem dX4_comesFromElsewhere_10 : decode cX4_comesFromElsewhere 10 = .ok (.aload_n 2, 1) := by decide +kernel
theorem dX4_comesFromElsewhere_11 : decode cX4_comesFromElsewhere 11 = .ok (.iload_n 3, 1) := by decide +kernel
theorem dX4_comesFromElsewhere_12 : decode cX4_comesFromElsewhere 12 = .ok (.iconst 0, 1) := by decide +kernel
theorem dX4_comesFromElsewhere_13 : decode cX4_comesFromElsewhere 13 = .ok (.invokevirtual 116, 3) := by decide +kernel
theorem dX4_comesFromElsewhere_16 : decode cX4_comesFromElsewhere 16 = .ok (.iload_n 0, 1) := by decide +kernel
theorem dX4_comesFromElsewhere_17 : decode cX4_comesFromElsewhere 17 = .ok (.if_icmp .eq 13, 3) := by decide +kernel
theorem dX4_comesFromElsewhere_20 : decode cX4_comesFromElsewhere 20 = .ok (.aload_n 2, 1) := by decide +kernel
theorem dX4_comesFromElsewhere_21 : decode cX4_comesFromElsewhere 21 = .ok (.iload_n 3, 1) := by decide +kernel
theorem dX4_comesFromElsewhere_22 : decode cX4_comesFromElsewhere 22 = .ok (.iconst 1, 1) := by decide +kernel
theorem dX4_comesFromElsewhere_23 : decode cX4_comesFromElsewhere 23 = .ok (.invokevirtual 116, 3) := by decide +kernel
theorem dX4_comesFromElsewhere_26 : decode cX4_comesFromElsewhere 26 = .ok (.iload_n 0, 1) := by decide +kernel
theorem dX4_comesFromElsewhere_27 : decode cX4_comesFromElsewhere 27 = .ok (.if_icmp .ne 7, 3) := by decide +kernel
theorem dX4_comesFromElsewhere_30 : decode cX4_comesFromElsewhere 30 = .ok (.iconst 1, 1) := by decide +kernel
theorem dX4_comesFromElsewhere_31 : decode cX4_comesFromElsewhere 31 = .ok (.goto 4, 3) := by decide +kernel
theorem dX4_comesFromElsewhere_34 : decode cX4_comesFromElsewhere 34 = .ok (.iconst 0, 1) := by decide +kernel
theorem dX4_comesFromElsewhere_35 : decode cX4_comesFromElsewhere 35 = .ok (.istore 4, 2) := by decide +kernel
theorem dX4_comesFromElsewhere_37 : decode cX4_comesFromElsewhere 37 = .ok (.iload 4, 2) := by decide +kernel
theorem dX4_comesFromElsewhere_39 : decode cX4_comesFromElsewhere 39 = .ok (.ifCond .eq 10, 3) := by decide +kernel
theorem dX4_comesFromElsewhere_42 : decode cX4_comesFromElsewhere 42 = .ok (.iload_n 3, 1) := by decide +kernel
theorem dX4_comesFromElsewhere_43 : decode cX4_comesFromElsewhere 43 = .ok (.iload_n 1, 1) := by decide +kernel
theorem dX4_comesFromElsewhere_44 : decode cX4_comesFromElsewhere 44 = .ok (.if_icmp .eq 5, 3) := by decide +kernel
theorem dX4_comesFromElsewhere_47 : decode cX4_comesFromElsewhere 47 = .ok (.iconst 1, 1) := by decide +kernel
theorem dX4_comesFromElsewhere_48 : decode cX4_comesFromElsewhere 48 = .ok (.ireturn, 1) := by decide +kernel
theorem dX4_comesFromElsewhere_49 : decode cX4_comesFromElsewhere 49 = .ok (.iinc 3 1, 3) := by decide +kernel
theorem dX4_comesFromElsewhere_52 : decode cX4_comesFromElsewhere 52 = .ok (.goto (-50), 3) := by decide +kernel
theorem dX4_comesFromElsewhere_55 : decode cX4_comesFromElsewhere 55 = .ok (.iconst 0, 1) := by decide +kernel
theorem dX4_comesFromElsewhere_56 : decode cX4_comesFromElsewhere 56 = .ok (.ireturn, 1) := by decide +kernel
def fX4_comesFromElsewhere_35 (k2 : Int → Int → Int → Int → V_ → Option (Int × V_)) (x0 x1 x2 x3 s0 : Int) (v : V_) : Option (Int × V_) :=
  if s0 = 0 then (
    lt_ (wr_ (x3 + 1)) fun y5 =>
    k2 x0 x1 x2 y5 v)
  else (
    if x3 = x1 then (
      lt_ (wr_ (x3 + 1)) fun y7 =>
      k2 x0 x1 x2 y7 v)
    else (
      some (1, v)))
def fX4_comesFromElsewhere_30 (k2 : Int → Int → Int → Int → V_ → Option (Int × V_)) (x0 x1 x2 x3 : Int) (v : V_) : Option (Int × V_) :=
  fX4_comesFromElsewhere_35 k2 x0 x1 x2 x3 1 v
def fX4_comesFromElsewhere_2 : Nat → Int → Int → Int → Int → V_ → Option (Int × V_)
  | 0, _, _, _, _, _ => none
  | n + 1, x0, x1, x2, x3, v =>
    if (v x2 0) ≤ x3 then (
      some (0, v))
    else (
      bd_ (fX5_leadsTo x2 x3 0 v) fun q2 =>
      if q2.1 = x0 then (
        fX4_comesFromElsewhere_30 (fX4_comesFromElsewhere_2 n) x0 x1 x2 x3 q2.2)
      else (
        bd_ (fX5_leadsTo x2 x3 1 q2.2) fun q8 =>
        if q8.1 = x0 then (
          fX4_comesFromElsewhere_30 (fX4_comesFromElsewhere_2 n) x0 x1 x2 x3 q8.2)
        else (
          fX4_comesFromElsewhere_35 (fX4_comesFromElsewhere_2 n) x0 x1 x2 x3 0 q8.2)))
def fX4_comesFromElsewhere (x0 x1 x2 : Int) (v : V_) : Option (Int × V_) :=
  fX4_comesFromElsewhere_2 fu_ x0 x1 x2 0 v
section
variable {E : En_} {p : Program} {l : Launch} {e : Env} {s : State} {m : MethodId} {args : Array Value} {below : List Frame} {meth : Method} {c : Code} {sz : Int}
theorem tX4_comesFromElsewhere_35 (C : MC_ E p s m c cX4_comesFromElsewhere 5 RX4) (hr : meth.sig.returnType = (some FieldType.boolean)) (hlk : meth.locks = false) (hC : Cl_ E.2.2.2.2.2 sz) {out : Int × V_} (k2 : Int → Int → Int → Int → V_ → Option (Int × V_)) (H_2 : ∀ (x0 x1 x2 x3 : Int) (v : V_), (E.2.2.2.2.2 x2 ∧ ty_ x2 = 5 ∧ ln_ x2 = 0) → k2 x0 x1 x2 x3 v = some out → G_ E p l e (rm_ 1 22) s m args below meth c 5 sz (Q_ E below args s sz sz 0 out.1 out.2) 2 [(0, (0, x0)), (1, (0, x1)), (2, (2, x2)), (3, (0, x3))] [] v sz) (x0 x1 x2 x3 s0 : Int) (v : V_) (T2 : (E.2.2.2.2.2 x2 ∧ ty_ x2 = 5 ∧ ln_ x2 = 0)) (h : fX4_comesFromElsewhere_35 k2 x0 x1 x2 x3 s0 v = some out) : G_ E p l e (rm_ 1 22) s m args below meth c 5 sz (Q_ E below args s sz sz 0 out.1 out.2) 35 [(0, (0, x0)), (1, (0, x1)), (2, (2, x2)), (3, (0, x3))] [(0, s0)] v sz := by
  rw [fX4_comesFromElsewhere_35] at h
  refine g_istore C (i := 4) (ls' := [(4, (0, s0)), (0, (0, x0)), (1, (0, x1)), (2, (2, x2)), (3, (0, x3))]) dX4_comesFromElsewhere_35 (by decide) rfl ?_
  refine g_iload C (i := 4) dX4_comesFromElsewhere_37 0 rfl ?_
  refine g_if_eq C 49 dX4_comesFromElsewhere_39 rfl (fun c4 => ?_) (fun c4 => ?_)
  · replace h := if_t h c4
    obtain ⟨y5, ey5, h⟩ := lt_e h
    refine g_iincx C (ls' := [(3, (0, y5)), (4, (0, s0)), (0, (0, x0)), (1, (0, x1)), (2, (2, x2))]) ey5 dX4_comesFromElsewhere_49 4 rfl (by decide) (by decide) rfl ?_
    refine g_goto C 2 dX4_comesFromElsewhere_52 rfl ?_
    refine g_sub [2, 3, 4, 0] rfl rfl ?_
    exact H_2 _ _ _ _ _ T2 h
  · replace h := if_f h c4
    refine g_iload_n C (f := 3) dX4_comesFromElsewhere_42 4 rfl ?_
    refine g_iload_n C (f := 1) dX4_comesFromElsewhere_43 2 rfl ?_
    refine g_icmp_eq C 49 dX4_comesFromElsewhere_44 rfl (fun c6 => ?_) (fun c6 => ?_)
    · replace h := if_t h c6
      obtain ⟨y7, ey7, h⟩ := lt_e h
      refine g_iincx C (ls' := [(3, (0, y7)), (4, (0, s0)), (0, (0, x0)), (1, (0, x1)), (2, (2, x2))]) ey7 dX4_comesFromElsewhere_49 4 rfl (by decide) (by decide) rfl ?_
      refine g_goto C 2 dX4_comesFromElsewhere_52 rfl ?_
      refine g_sub [2, 3, 4, 0] rfl rfl ?_
      exact H_2 _ _ _ _ _ T2 h
    · replace h := if_f h c6
      refine g_iconst C (n := 1) dX4_comesFromElsewhere_47 (by decide) ?_
      cases h
      exact g_zret C dX4_comesFromElsewhere_48 hr hlk (Or.inr rfl)
theorem tX4_comesFromElsewhere_30 (C : MC_ E p s m c cX4_comesFromElsewhere 5 RX4) (hr : meth.sig.returnType = (some FieldType.boolean)) (hlk : meth.locks = false) (hC : Cl_ E.2.2.2.2.2 sz) {out : Int × V_} (k2 : Int → Int → Int → Int → V_ → Option (Int × V_)) (H_2 : ∀ (x0 x1 x2 x3 : Int) (v : V_), (E.2.2.2.2.2 x2 ∧ ty_ x2 = 5 ∧ ln_ x2 = 0) → k2 x0 x1 x2 x3 v = some out → G_ E p l e (rm_ 1 22) s m args below meth c 5 sz (Q_ E below args s sz sz 0 out.1 out.2) 2 [(0, (0, x0)), (1, (0, x1)), (2, (2, x2)), (3, (0, x3))] [] v sz) (x0 x1 x2 x3 : Int) (v : V_) (T2 : (E.2.2.2.2.2 x2 ∧ ty_ x2 = 5 ∧ ln_ x2 = 0)) (h : fX4_comesFromElsewhere_30 k2 x0 x1 x2 x3 v = some out) : G_ E p l e (rm_ 1 22) s m args below meth c 5 sz (Q_ E below args s sz sz 0 out.1 out.2) 30 [(0, (0, x0)), (1, (0, x1)), (2, (2, x2)), (3, (0, x3))] [] v sz := by
  rw [fX4_comesFromElsewhere_30] at h
  refine g_iconst C (n := 1) dX4_comesFromElsewhere_30 (by decide) ?_
  refine g_goto C 35 dX4_comesFromElsewhere_31 rfl ?_
  refine g_sub [0, 1, 2, 3] rfl rfl ?_
  exact tX4_comesFromElsewhere_35 C hr hlk hC _ H_2 _ _ _ _ _ _ T2 h
theorem tX4_comesFromElsewhere_2 (C : MC_ E p s m c cX4_comesFromElsewhere 5 RX4) (hr : meth.sig.returnType = (some FieldType.boolean)) (hlk : meth.locks = false) (hC : Cl_ E.2.2.2.2.2 sz) {out : Int × V_} : ∀ (n : Nat) (x0 x1 x2 x3 : Int) (v : V_), (E.2.2.2.2.2 x2 ∧ ty_ x2 = 5 ∧ ln_ x2 = 0) → fX4_comesFromElsewhere_2 n x0 x1 x2 x3 v = some out → G_ E p l e (rm_ 1 22) s m args below meth c 5 sz (Q_ E below args s sz sz 0 out.1 out.2) 2 [(0, (0, x0)), (1, (0, x1)), (2, (2, x2)), (3, (0, x3))] [] v sz := by
  intro n
  induction n with
  | zero =>
    intro x0 x1 x2 x3 v T2 h
    cases h
  | succ n H_2 =>
    intro x0 x1 x2 x3 v T2 h
    rw [fX4_comesFromElsewhere_2] at h
    refine g_iload_n C (f := 3) dX4_comesFromElsewhere_2 3 rfl ?_
    refine g_aload_n C (f := 2) dX4_comesFromElsewhere_3 2 rfl ?_
    refine g_getf C (k := 0) (kd := 0) okX5 (by decide) kf_RX4_101 dX4_comesFromElsewhere_4 (rg_ hC T2.1) T2.2.1 rfl ?_
    refine g_icmp_ge C 55 dX4_comesFromElsewhere_7 rfl (fun c1 => ?_) (fun c1 => ?_)
    · replace h := if_t h c1
      refine g_iconst C (n := 0) dX4_comesFromElsewhere_55 (by decide) ?_
      cases h
      exact g_zret C dX4_comesFromElsewhere_56 hr hlk (Or.inl rfl)
    · replace h := if_f h c1
      refine g_aload_n C (f := 2) dX4_comesFromElsewhere_10 2 rfl ?_
      refine g_iload_n C (f := 3) dX4_comesFromElsewhere_11 3 rfl ?_
      refine g_iconst C (n := 0) dX4_comesFromElsewhere_12 (by decide) ?_
      obtain ⟨q2, eq2, h⟩ := bd_e h
      refine g_cV C [(0, x3), (0, 0)] (cX5_leadsTo_ok l hC T2 eq2) okX5 T2.2.1 (rg_ hC T2.1) km_RX4_116 cv_X5_leadsTo rfl (by decide) rfl rfl (Nat.le_of_ble_eq_true rfl) dX4_comesFromElsewhere_13 ?_
      refine g_iload_n C (f := 0) dX4_comesFromElsewhere_16 0 rfl ?_
      refine g_icmp_eq C 30 dX4_comesFromElsewhere_17 rfl (fun c3 => ?_) (fun c3 => ?_)
      · replace h := if_t h c3
        refine g_sub [0, 1, 2, 3] rfl rfl ?_
        exact tX4_comesFromElsewhere_30 C hr hlk hC _ H_2 _ _ _ _ _ T2 h
      · replace h := if_f h c3
        refine g_aload_n C (f := 2) dX4_comesFromElsewhere_20 2 rfl ?_
        refine g_iload_n C (f := 3) dX4_comesFromElsewhere_21 3 rfl ?_
        refine g_iconst C (n := 1) dX4_comesFromElsewhere_22 (by decide) ?_
        obtain ⟨q8, eq8, h⟩ := bd_e h
        refine g_cV C [(0, x3), (0, 1)] (cX5_leadsTo_ok l hC T2 eq8) okX5 T2.2.1 (rg_ hC T2.1) km_RX4_116 cv_X5_leadsTo rfl (by decide) rfl rfl (Nat.le_of_ble_eq_true rfl) dX4_comesFromElsewhere_23 ?_
        refine g_iload_n C (f := 0) dX4_comesFromElsewhere_26 0 rfl ?_
        refine g_icmp_ne C 34 dX4_comesFromElsewhere_27 rfl (fun c9 => ?_) (fun c9 => ?_)
        · replace h := if_f h c9
          refine g_iconst C (n := 0) dX4_comesFromElsewhere_34 (by decide) ?_
          refine g_sub [0, 1, 2, 3] rfl rfl ?_
          exact tX4_comesFromElsewhere_35 C hr hlk hC _ H_2 _ _ _ _ _ _ T2 h
        · replace h := if_t h c9
          refine g_sub [0, 1, 2, 3] rfl rfl ?_
          exact tX4_comesFromElsewhere_30 C hr hlk hC _ H_2 _ _ _ _ _ T2 h
end
theorem cX4_comesFromElsewhere_ok (l : Launch) {E : En_} {sz : Int} (hC : Cl_ E.2.2.2.2.2 sz) {x0 x1 x2 : Int} {v : V_} {out : Int × V_} (T2 : (E.2.2.2.2.2 x2 ∧ ty_ x2 = 5 ∧ ln_ x2 = 0)) (h : fX4_comesFromElsewhere x0 x1 x2 v = some out) : Met l yX4_comesFromElsewhere [.code yX4_comesFromElsewhere cX4_comesFromElsewhere 5 (some FieldType.boolean)] (rm_ 1 22) (Pc_ E sz v [(0, x0), (0, x1), (2, x2)]) (Qc_ E sz 0 out.1 out.2) 0 0 (fun q => E.1 < q) := by
  refine met_G0 RX4 (by decide +kernel) rfl (Nat.le_of_ble_eq_true rfl) ?_
  intro p e s m args below meth c C hr hlk
  rw [fX4_comesFromElsewhere] at h
  refine g_iconst C (n := 0) dX4_comesFromElsewhere_0 (by decide) ?_
  refine g_istore_n C (f := 3) (ls' := [(3, (0, 0)), (0, (0, x0)), (1, (0, x1)), (2, (2, x2))]) dX4_comesFromElsewhere_1 (by decide) rfl ?_
  refine g_sub [1, 2, 3, 0] rfl rfl ?_
  exact tX4_comesFromElsewhere_2 C hr hlk hC _ _ _ _ _ _ T2 h
theorem dX4_joins_0 : decode cX4_joins 0 = .ok (.aload_n 0, 1) := by decide +kernel
theorem dX4_joins_1 : decode cX4_joins 1 = .ok (.getfield 39, 3) := by decide +kernel
theorem dX4_joins_4 : decode cX4_joins 4 = .ok (.iload_n 1, 1) := by decide +kernel
theorem dX4_joins_5 : decode cX4_joins 5 = .ok (.ishr, 1) := by decide +kernel
theorem dX4_joins_6 : decode cX4_joins 6 = .ok (.iconst 1, 1) := by decide +kernel
theorem dX4_joins_7 : decode cX4_joins 7 = .ok (.iand, 1) := by decide +kernel
theorem dX4_joins_8 : decode cX4_joins 8 = .ok (.iconst 1, 1) := by decide +kernel
theorem dX4_joins_9 : decode cX4_joins 9 = .ok (.if_icmp .ne 7, 3) := by decide +kernel
theorem dX4_joins_12 : decode cX4_joins 12 = .ok (.iconst 1, 1) := by decide +kernel
theorem dX4_joins_13 : decode cX4_joins 13 = .ok (.goto 4, 3) := by decide +kernel
theorem dX4_joins_16 : decode cX4_joins 16 = .ok (.iconst 0, 1) := by decide +kernel
theorem dX4_joins_17 : decode cX4_joins 17 = .ok (.ireturn, 1) := by decide +kernel
def fX4_joins (x0 x1 : Int) (v : V_) : Option (Int × V_) :=
  if (bA_ (sR_ (v x0 1) x1) 1) = 1 then (
    some (1, v))
  else (
    some (0, v))
theorem cX4_joins_ok (l : Launch) {E : En_} {sz : Int} (hC : Cl_ E.2.2.2.2.2 sz) {x0 x1 : Int} {v : V_} {out : Int × V_} (T0 : (E.2.2.2.2.2 x0 ∧ ty_ x0 = 4 ∧ ln_ x0 = 0)) (h : fX4_joins x0 x1 v = some out) : Met l yX4_joins [.code yX4_joins cX4_joins 2 (some FieldType.boolean)] (rm_ 0 0) (Pc_ E sz v [(2, x0), (0, x1)]) (Qc_ E sz 0 out.1 out.2) 0 0 (fun q => E.1 < q) := by
  refine met_G0 RX4 (by decide +kernel) rfl (Nat.le_of_ble_eq_true rfl) ?_
  intro p e s m args below meth c C hr hlk
  rw [fX4_joins] at h
  refine g_aload_n C (f := 0) dX4_joins_0 0 rfl ?_
  refine g_getf C (k := 1) (kd := 0) okX4 (by decide) kf_RX4_39 dX4_joins_1 (rg_ hC T0.1) T0.2.1 rfl ?_
  refine g_iload_n C (f := 1) dX4_joins_4 1 rfl ?_
  refine g_ishr C dX4_joins_5 ?_
  refine g_iconst C (n := 1) dX4_joins_6 (by decide) ?_
  refine g_iand C dX4_joins_7 ?_
  refine g_iconst C (n := 1) dX4_joins_8 (by decide) ?_
  refine g_icmp_ne C 16 dX4_joins_9 rfl (fun c1 => ?_) (fun c1 => ?_)
  · replace h := if_f h c1
    refine g_iconst C (n := 0) dX4_joins_16 (by decide) ?_
    cases h
    exact g_zret C dX4_joins_17 hr hlk (Or.inl rfl)
  · replace h := if_t h c1
    refine g_iconst C (n := 1) dX4_joins_12 (by decide) ?_
    refine g_goto C 17 dX4_joins_13 rfl ?_
    cases h
    exact g_zret C dX4_joins_17 hr hlk (Or.inr rfl)
theorem dX4_findJoined_0 : decode cX4_findJoined 0 = .ok (.aload_n 0, 1) := by decide +kernel
theorem dX4_findJoined_1 : decode cX4_findJoined 1 = .ok (.iconst 0, 1) := by decide +kernel
theorem dX4_findJoined_2 : decode cX4_findJoined 2 = .ok (.putfield 39, 3) := by decide +kernel
theorem dX4_findJoined_5 : decode cX4_findJoined 5 = .ok (.iconst 0, 1) := by decide +kernel
theorem dX4_findJoined_6 : decode cX4_findJoined 6 = .ok (.istore_n 2, 1) := by decide +kernel
theorem dX4_findJoined_7 : decode cX4_findJoined 7 = .ok (.iload_n 2, 1) := by decide +kernel
theorem dX4_findJoined_8 : decode cX4_findJoined 8 = .ok (.aload_n 0, 1) := by decide +kernel
theorem dX4_findJoined_9 : decode cX4_findJoined 9 = .ok (.getfield 35, 3) := by decide +kernel
theorem dX4_findJoined_12 : decode cX4_findJoined 12 = .ok (.if_icmp .ge 92, 3) := by decide +kernel
theorem dX4_findJoined_15 : decode cX4_findJoined 15 = .ok (.aload_n 0, 1) := by decide +kernel
theorem dX4_findJoined_16 : decode cX4_findJoined 16 = .ok (.getfield 11, 3) := by decide +kernel
theorem dX4_findJoined_19 : decode cX4_findJoined 19 = .ok (.iload_n 2, 1) := by decide +kernel
theorem dX4_findJoined_20 : decode cX4_findJoined 20 = .ok (.aaload, 1) := by decide +kernel
theorem dX4_findJoined_21 : decode cX4_findJoined 21 = .ok (.astore_n 3, 1) := by decide +kernel
theorem dX4_findJoined_22 : decode cX4_findJoined 22 = .ok (.iconst 1, 1) := by decide +kernel
theorem dX4_findJoined_23 : decode cX4_findJoined 23 = .ok (.istore 4, 2) := by decide +kernel
theorem dX4_findJoined_25 : decode cX4_findJoined 25 = .ok (.iload 4, 2) := by decide +kernel
theorem dX4_findJoined_27 : decode cX4_findJoined 27 = .ok (.aload_n 3, 1) := by decide +kernel
theorem dX4_findJoined_28 : decode cX4_findJoined 28 = .ok (.getfield 97, 3) := by decide +kernel
theorem dX4_findJoined_31 : decode cX4_findJoined 31 = .ok (.if_icmp .ge 67, 3) := by decide +kernel
theorem dX4_findJoined_34 : decode cX4_findJoined 34 = .ok (.aload_n 3, 1) := by decide +kernel
theorem dX4_findJoined_35 : decode cX4_findJoined 35 = .ok (.getfield 98, 3) := by decide +kernel
theorem dX4_findJoined_38 : decode cX4_findJoined 38 = .ok (.iload 4, 2) := by decide +kernel
theorem dX4_findJoined_40 : decode cX4_findJoined 40 = .ok (.iconst 1, 1) := by decide +kernel
theorem dX4_findJoined_41 : decode cX4_findJoined 41 = .ok (.isub, 1) := by decide +kernel
theorem dX4_findJoined_42 : decode cX4_findJoined 42 = .ok (.iaload, 1) := by decide +kernel
theorem dX4_findJoined_43 : decode cX4_findJoined 43 = .ok (.istore 5, 2) := by decide +kernel
theorem dX4_findJoined_45 : decode cX4_findJoined 45 = .ok (.aload_n 3, 1) := by decide +kernel
theorem dX4_findJoined_46 : decode cX4_findJoined 46 = .ok (.getfield 98, 3) := by decide +kernel
theorem dX4_findJoined_49 : decode cX4_findJoined 49 = .ok (.iload 4, 2) := by decide +kernel
theorem dX4_findJoined_51 : decode cX4_findJoined 51 = .ok (.iaload, 1) := by decide +kernel
theorem dX4_findJoined_52 : decode cX4_findJoined 52 = .ok (.istore 6, 2) := by decide +kernel
theorem dX4_findJoined_54 : decode cX4_findJoined 54 = .ok (.iload 6, 2) := by decide +kernel
theorem dX4_findJoined_56 : decode cX4_findJoined 56 = .ok (.ifCond .eq 23, 3) := by decide +kernel
theorem dX4_findJoined_59 : decode cX4_findJoined 59 = .ok (.aload_n 0, 1) := by decide +kernel
theorem dX4_findJoined_60 : decode cX4_findJoined 60 = .ok (.iload 5, 2) := by decide +kernel
theorem dX4_findJoined_62 : decode cX4_findJoined 62 = .ok (.invokevirtual 130, 3) := by decide +kernel
theorem dX4_findJoined_65 : decode cX4_findJoined 65 = .ok (.ifCond .ne 14, 3) := by decide +kernel
theorem dX4_findJoined_68 : decode cX4_findJoined 68 = .ok (.iload 6, 2) := by decide +kernel
theorem dX4_findJoined_70 : decode cX4_findJoined 70 = .ok (.iload 5, 2) := by decide +kernel
theorem dX4_findJoined_72 : decode cX4_findJoined 72 = .ok (.aload_n 1, 1) := by decide +kernel
theorem dX4_findJoined_73 : decode cX4_findJoined 73 = .ok (.invokestatic 134, 3) := by decide +kernel
theorem dX4_findJoined_76 : decode cX4_findJoined 76 = .ok (.ifCond .eq 16, 3) := by decide +kernel
theorem dX4_findJoined_79 : decode cX4_findJoined 79 = .ok (.aload_n 0, 1) := by decide +kernel
theorem dX4_findJoined_80 : decode cX4_findJoined 80 = .ok (.dup, 1) := by decide +kernel
theorem dX4_findJoined_81 : decode cX4_findJoined 81 = .ok (.getfield 39, 3) := by decide +kernel
theorem dX4_findJoined_84 : decode cX4_findJoined 84 = .ok (.iconst 1, 1) := by decide +kernel
theorem dX4_findJoined_85 : decode cX4_findJoined 85 = .ok (.iload 6, 2) := by decide +kernel
theorem dX4_findJoined_87 : decode cX4_findJoined 87 = .ok (.ishl, 1) := by decide +kernel
theorem dX4_findJoined_88 : decode cX4_findJoined 88 = .ok (.ior, 1) := by decide +kernel
theorem dX4_findJoined_89 : decode cX4_findJoined 89 = .ok (.putfield 39, 3) := by decide +kernel
theorem dX4_findJoined_92 : decode cX4_findJoined 92 = .ok (.iinc 4 1, 3) := by decide +kernel
theorem dX4_findJoined_95 : decode cX4_findJoined 95 = .ok (.goto (-70), 3) := by decide +kernel
theorem dX4_findJoined_98 : decode cX4_findJoined 98 = .ok (.iinc 2 1, 3) := by decide +kernel
theorem dX4_findJoined_101 : decode cX4_findJoined 101 = .ok (.goto (-94), 3) := by decide +kernel
theorem dX4_findJoined_104 : decode cX4_findJoined 104 = .ok (.return_, 1) := by decide +kernel
def fX4_findJoined_79 (k7 : Int → Int → Int → V_ → Option (Int × V_)) (k25 : Int → Int → Int → Int → Int → V_ → Option (Int × V_)) (x0 x1 x2 x3 x4 x6 : Int) (v : V_) : Option (Int × V_) :=
  lt_ (up_ v x0 1 (bO_ (v x0 1) (sL_ 1 x6))) fun v17 =>
  lt_ (wr_ (x4 + 1)) fun y18 =>
  k25 x0 x1 x2 x3 y18 v17
def fX4_findJoined_25 (k7 : Int → Int → Int → V_ → Option (Int × V_)) : Nat → Int → Int → Int → Int → Int → V_ → Option (Int × V_)
  | 0, _, _, _, _, _, _ => none
  | n + 1, x0, x1, x2, x3, x4, v =>
    if (v x3 1) ≤ x4 then (
      lt_ (wr_ (x2 + 1)) fun y9 =>
      k7 x0 x1 y9 v)
    else (
      ck_ (0 ≤ wr_ (x4 - 1) ∧ wr_ (x4 - 1) < 4) (
      lt_ (v (x3 + 1) (wr_ (x4 - 1))) fun y12 =>
      ck_ (0 ≤ x4 ∧ x4 < 4) (
      lt_ (v (x3 + 1) x4) fun y15 =>
      if y15 = 0 then (
        fX4_findJoined_79 k7 (fX4_findJoined_25 k7 n) x0 x1 x2 x3 x4 y15 v)
      else (
        bd_ (fX4_joins x0 y12 v) fun q19 =>
        if q19.1 = 0 then (
          bd_ (fX4_comesFromElsewhere y15 y12 x1 q19.2) fun q21 =>
          if q21.1 = 0 then (
            lt_ (wr_ (x4 + 1)) fun y23 =>
            (fX4_findJoined_25 k7 n) x0 x1 x2 x3 y23 q21.2)
          else (
            fX4_findJoined_79 k7 (fX4_findJoined_25 k7 n) x0 x1 x2 x3 x4 y15 q21.2))
        else (
          fX4_findJoined_79 k7 (fX4_findJoined_25 k7 n) x0 x1 x2 x3 x4 y15 q19.2)))))
def fX4_findJoined_7 : Nat → Int → Int → Int → V_ → Option (Int × V_)
  | 0, _, _, _, _ => none
  | n + 1, x0, x1, x2, v =>
    if (v x0 0) ≤ x2 then (
      some (0, v))
    else (
      ck_ (0 ≤ x2 ∧ x2 < 8) (
      lt_ ((x0 + 1) + (10 + 75 * x2)) fun y6 =>
      fX4_findJoined_25 (fX4_findJoined_7 n) fu_ x0 x1 x2 y6 1 v))
def fX4_findJoined (x0 x1 : Int) (v : V_) : Option (Int × V_) :=
  lt_ (up_ v x0 1 0) fun v1 =>
  fX4_findJoined_7 fu_ x0 x1 0 v1
section
variable {E : En_} {p : Program} {l : Launch} {e : Env} {s : State} {m : MethodId} {args : Array Value} {below : List Frame} {meth : Method} {c : Code} {sz : Int}
theorem tX4_findJoined_79 (C : MC_ E p s m c cX4_findJoined 7 RX4) (hr : meth.sig.returnType = (none : Option FieldType)) (hlk : meth.locks = false) (hC : Cl_ E.2.2.2.2.2 sz) {out : Int × V_} (k7 : Int → Int → Int → V_ → Option (Int × V_)) (H_7 : ∀ (x0 x1 x2 : Int) (v : V_), (E.2.2.2.2.2 x0 ∧ ty_ x0 = 4 ∧ ln_ x0 = 0) → (E.2.2.2.2.2 x1 ∧ ty_ x1 = 5 ∧ ln_ x1 = 0) → k7 x0 x1 x2 v = some out → G_ E p l e (rm_ 2 46) s m args below meth c 7 sz (Q_ E below args s sz sz 9 out.1 out.2) 7 [(0, (2, x0)), (1, (2, x1)), (2, (0, x2))] [] v sz) (k25 : Int → Int → Int → Int → Int → V_ → Option (Int × V_)) (H_25 : ∀ (x0 x1 x2 x3 x4 : Int) (v : V_), (E.2.2.2.2.2 x0 ∧ ty_ x0 = 4 ∧ ln_ x0 = 0) → (E.2.2.2.2.2 x1 ∧ ty_ x1 = 5 ∧ ln_ x1 = 0) → (E.2.2.2.2.2 x3 ∧ ty_ x3 = 10 ∧ ln_ x3 = 0) → k25 x0 x1 x2 x3 x4 v = some out → G_ E p l e (rm_ 2 46) s m args below meth c 7 sz (Q_ E below args s sz sz 9 out.1 out.2) 25 [(0, (2, x0)), (1, (2, x1)), (2, (0, x2)), (3, (2, x3)), (4, (0, x4))] [] v sz) (x0 x1 x2 x3 x4 x6 : Int) (v : V_) (T0 : (E.2.2.2.2.2 x0 ∧ ty_ x0 = 4 ∧ ln_ x0 = 0)) (T1 : (E.2.2.2.2.2 x1 ∧ ty_ x1 = 5 ∧ ln_ x1 = 0)) (T3 : (E.2.2.2.2.2 x3 ∧ ty_ x3 = 10 ∧ ln_ x3 = 0)) (h : fX4_findJoined_79 k7 k25 x0 x1 x2 x3 x4 x6 v = some out) : G_ E p l e (rm_ 2 46) s m args below meth c 7 sz (Q_ E below args s sz sz 9 out.1 out.2) 79 [(0, (2, x0)), (1, (2, x1)), (2, (0, x2)), (3, (2, x3)), (4, (0, x4)), (6, (0, x6))] [] v sz := by
  rw [fX4_findJoined_79] at h
  refine g_aload_n C (f := 0) dX4_findJoined_79 0 rfl ?_
  refine g_dup C (Nat.ne_of_beq_eq_false rfl) dX4_findJoined_80 ?_
  refine g_getf C (k := 1) (kd := 0) okX4 (by decide) kf_RX4_39 dX4_findJoined_81 (rg_ hC T0.1) T0.2.1 rfl ?_
  refine g_iconst C (n := 1) dX4_findJoined_84 (by decide) ?_
  refine g_iload C (i := 6) dX4_findJoined_85 5 rfl ?_
  refine g_ishl C dX4_findJoined_87 ?_
  refine g_ior C dX4_findJoined_88 ?_
  obtain ⟨v17, ev17, h⟩ := lt_e h
  refine g_putf C (k := 1) (kd := 0) okX4 (by decide) kf_RX4_39 dX4_findJoined_89 (rg_ hC T0.1) T0.2.1 rfl rfl nvI (Or.inl rfl) v17 ev17 ?_
  obtain ⟨y18, ey18, h⟩ := lt_e h
  refine g_iincx C (ls' := [(4, (0, y18)), (0, (2, x0)), (1, (2, x1)), (2, (0, x2)), (3, (2, x3)), (6, (0, x6))]) ey18 dX4_findJoined_92 4 rfl (by decide) (by decide) rfl ?_
  refine g_goto C 25 dX4_findJoined_95 rfl ?_
  refine g_sub [1, 2, 3, 4, 0] rfl rfl ?_
  exact H_25 _ _ _ _ _ _ T0 T1 T3 h
theorem tX4_findJoined_25 (C : MC_ E p s m c cX4_findJoined 7 RX4) (hr : meth.sig.returnType = (none : Option FieldType)) (hlk : meth.locks = false) (hC : Cl_ E.2.2.2.2.2 sz) {out : Int × V_} (k7 : Int → Int → Int → V_ → Option (Int × V_)) (H_7 : ∀ (x0 x1 x2 : Int) (v : V_), (E.2.2.2.2.2 x0 ∧ ty_ x0 = 4 ∧ ln_ x0 = 0) → (E.2.2.2.2.2 x1 ∧ ty_ x1 = 5 ∧ ln_ x1 = 0) → k7 x0 x1 x2 v = some out → G_ E p l e (rm_ 2 46) s m args below meth c 7 sz (Q_ E below args s sz sz 9 out.1 out.2) 7 [(0, (2, x0)), (1, (2, x1)), (2, (0, x2))] [] v sz) : ∀ (n : Nat) (x0 x1 x2 x3 x4 : Int) (v : V_), (E.2.2.2.2.2 x0 ∧ ty_ x0 = 4 ∧ ln_ x0 = 0) → (E.2.2.2.2.2 x1 ∧ ty_ x1 = 5 ∧ ln_ x1 = 0) → (E.2.2.2.2.2 x3 ∧ ty_ x3 = 10 ∧ ln_ x3 = 0) → fX4_findJoined_25 k7 n x0 x1 x2 x3 x4 v = some out → G_ E p l e (rm_ 2 46) s m args below meth c 7 sz (Q_ E below args s sz sz 9 out.1 out.2) 25 [(0, (2, x0)), (1, (2, x1)), (2, (0, x2)), (3, (2, x3)), (4, (0, x4))] [] v sz := by
  intro n
  induction n with
  | zero =>
    intro x0 x1 x2 x3 x4 v T0 T1 T3 h
    cases h
  | succ n H_25 =>
    intro x0 x1 x2 x3 x4 v T0 T1 T3 h
    rw [fX4_findJoined_25] at h
    refine g_iload C (i := 4) dX4_findJoined_25 4 rfl ?_
    refine g_aload_n C (f := 3) dX4_findJoined_27 3 rfl ?_
    refine g_getf C (k := 1) (kd := 0) okX10 (by decide) kf_RX4_97 dX4_findJoined_28 (rg_ hC T3.1) T3.2.1 rfl ?_
    refine g_icmp_ge C 98 dX4_findJoined_31 rfl (fun c8 => ?_) (fun c8 => ?_)
    · replace h := if_t h c8
      obtain ⟨y9, ey9, h⟩ := lt_e h
      refine g_iincx C (ls' := [(2, (0, y9)), (0, (2, x0)), (1, (2, x1)), (3, (2, x3)), (4, (0, x4))]) ey9 dX4_findJoined_98 2 rfl (by decide) (by decide) rfl ?_
      refine g_goto C 7 dX4_findJoined_101 rfl ?_
      refine g_sub [1, 2, 0] rfl rfl ?_
      exact H_7 _ _ _ _ T0 T1 h
    · replace h := if_f h c8
      refine g_aload_n C (f := 3) dX4_findJoined_34 3 rfl ?_
      have F10 := fX10_0 hC T3.1 T3.2.1
      refine g_getR C (k := 0) (o := 1) okX10 (by decide) kf_RX4_98 dX4_findJoined_35 hC T3.1 T3.2.1 rfl rfl ?_
      refine g_iload C (i := 4) dX4_findJoined_38 4 rfl ?_
      refine g_iconst C (n := 1) dX4_findJoined_40 (by decide) ?_
      refine g_isub C dX4_findJoined_41 ?_
      obtain ⟨c11, h⟩ := ck_e h
      refine g_iald C 4 dX4_findJoined_42 (rg_ hC F10.1) F10.2.1 F10.2.2 c11 ?_
      obtain ⟨y12, ey12, h⟩ := lt_e h
      refine g_set C ey12 ?_
      refine g_istore C (i := 5) (ls' := [(5, (0, y12)), (0, (2, x0)), (1, (2, x1)), (2, (0, x2)), (3, (2, x3)), (4, (0, x4))]) dX4_findJoined_43 (by decide) rfl ?_
      refine g_aload_n C (f := 3) dX4_findJoined_45 4 rfl ?_
      have F13 := fX10_0 hC T3.1 T3.2.1
      refine g_getR C (k := 0) (o := 1) okX10 (by decide) kf_RX4_98 dX4_findJoined_46 hC T3.1 T3.2.1 rfl rfl ?_
      refine g_iload C (i := 4) dX4_findJoined_49 5 rfl ?_
      obtain ⟨c14, h⟩ := ck_e h
      refine g_iald C 4 dX4_findJoined_51 (rg_ hC F13.1) F13.2.1 F13.2.2 c14 ?_
      obtain ⟨y15, ey15, h⟩ := lt_e h
      refine g_set C ey15 ?_
      refine g_istore C (i := 6) (ls' := [(6, (0, y15)), (5, (0, y12)), (0, (2, x0)), (1, (2, x1)), (2, (0, x2)), (3, (2, x3)), (4, (0, x4))]) dX4_findJoined_52 (by decide) rfl ?_
      refine g_iload C (i := 6) dX4_findJoined_54 0 rfl ?_
      refine g_if_eq C 79 dX4_findJoined_56 rfl (fun c16 => ?_) (fun c16 => ?_)
      · replace h := if_t h c16
        refine g_sub [2, 3, 4, 5, 6, 0] rfl rfl ?_
        exact tX4_findJoined_79 C hr hlk hC _ H_7 _ H_25 _ _ _ _ _ _ _ T0 T1 T3 h
      · replace h := if_f h c16
        refine g_aload_n C (f := 0) dX4_findJoined_59 2 rfl ?_
        refine g_iload C (i := 5) dX4_findJoined_60 1 rfl ?_
        obtain ⟨q19, eq19, h⟩ := bd_e h
        refine g_cV C [(0, y12)] (cX4_joins_ok l hC T0 eq19) okX4 T0.2.1 (rg_ hC T0.1) km_RX4_130 cv_X4_joins rfl (by decide) rfl rfl (Nat.le_of_ble_eq_true rfl) dX4_findJoined_62 ?_
        refine g_if_ne C 79 dX4_findJoined_65 rfl (fun c20 => ?_) (fun c20 => ?_)
        · replace h := if_f h c20
          refine g_sub [2, 3, 4, 5, 6, 0] rfl rfl ?_
          exact tX4_findJoined_79 C hr hlk hC _ H_7 _ H_25 _ _ _ _ _ _ _ T0 T1 T3 h
        · replace h := if_t h c20
          refine g_iload C (i := 6) dX4_findJoined_68 0 rfl ?_
          refine g_iload C (i := 5) dX4_findJoined_70 1 rfl ?_
          refine g_aload_n C (f := 1) dX4_findJoined_72 3 rfl ?_
          obtain ⟨q21, eq21, h⟩ := bd_e h
          refine g_cS C [(0, y15), (0, y12), (2, x1)] (cX4_comesFromElsewhere_ok l hC T1 eq21) km_RX4_134 cs_X4_comesFromElsewhere rfl (by decide) rfl rfl (Nat.le_of_ble_eq_true rfl) dX4_findJoined_73 ?_
          refine g_if_eq C 92 dX4_findJoined_76 rfl (fun c22 => ?_) (fun c22 => ?_)
          · replace h := if_t h c22
            obtain ⟨y23, ey23, h⟩ := lt_e h
            refine g_iincx C (ls' := [(4, (0, y23)), (6, (0, y15)), (5, (0, y12)), (0, (2, x0)), (1, (2, x1)), (2, (0, x2)), (3, (2, x3))]) ey23 dX4_findJoined_92 6 rfl (by decide) (by decide) rfl ?_
            refine g_goto C 25 dX4_findJoined_95 rfl ?_
            refine g_sub [3, 4, 5, 6, 0] rfl rfl ?_
            exact H_25 _ _ _ _ _ _ T0 T1 T3 h
          · replace h := if_f h c22
            refine g_sub [2, 3, 4, 5, 6, 0] rfl rfl ?_
            exact tX4_findJoined_79 C hr hlk hC _ H_7 _ H_25 _ _ _ _ _ _ _ T0 T1 T3 h
theorem tX4_findJoined_7 (C : MC_ E p s m c cX4_findJoined 7 RX4) (hr : meth.sig.returnType = (none : Option FieldType)) (hlk : meth.locks = false) (hC : Cl_ E.2.2.2.2.2 sz) {out : Int × V_} : ∀ (n : Nat) (x0 x1 x2 : Int) (v : V_), (E.2.2.2.2.2 x0 ∧ ty_ x0 = 4 ∧ ln_ x0 = 0) → (E.2.2.2.2.2 x1 ∧ ty_ x1 = 5 ∧ ln_ x1 = 0) → fX4_findJoined_7 n x0 x1 x2 v = some out → G_ E p l e (rm_ 2 46) s m args below meth c 7 sz (Q_ E below args s sz sz 9 out.1 out.2) 7 [(0, (2, x0)), (1, (2, x1)), (2, (0, x2))] [] v sz := by
  intro n
  induction n with
  | zero =>
    intro x0 x1 x2 v T0 T1 h
    cases h
  | succ n H_7 =>
    intro x0 x1 x2 v T0 T1 h
    rw [fX4_findJoined_7] at h
    refine g_iload_n C (f := 2) dX4_findJoined_7 2 rfl ?_
    refine g_aload_n C (f := 0) dX4_findJoined_8 0 rfl ?_
    refine g_getf C (k := 0) (kd := 0) okX4 (by decide) kf_RX4_35 dX4_findJoined_9 (rg_ hC T0.1) T0.2.1 rfl ?_
    refine g_icmp_ge C 104 dX4_findJoined_12 rfl (fun c2 => ?_) (fun c2 => ?_)
    · replace h := if_t h c2
      cases h
      exact g_vret C dX4_findJoined_104 hr hlk
    · replace h := if_f h c2
      refine g_aload_n C (f := 0) dX4_findJoined_15 0 rfl ?_
      have F3 := fX4_2 hC T0.1 T0.2.1
      refine g_getR C (k := 2) (o := 1) okX4 (by decide) kf_RX4_11 dX4_findJoined_16 hC T0.1 T0.2.1 rfl rfl ?_
      refine g_iload_n C (f := 2) dX4_findJoined_19 2 rfl ?_
      obtain ⟨c4, h⟩ := ck_e h
      have F5 := fE_traces (i := x2) hC F3.1 F3.2.1 F3.2.2 c4
      refine g_aald C 27 8 10 75 dX4_findJoined_20 hC F3.1 F3.2.1 F3.2.2 c4 (by decide) oA_traces ?_
      obtain ⟨y6, ey6, h⟩ := lt_e h
      refine g_set C ey6 ?_
      have F7 : (E.2.2.2.2.2 y6 ∧ ty_ y6 = 10 ∧ ln_ y6 = 0) := by rw [ey6]; exact F5
      refine g_astore_n C (f := 3) (ls' := [(3, (2, y6)), (0, (2, x0)), (1, (2, x1)), (2, (0, x2))]) dX4_findJoined_21 (by decide) rfl ?_
      refine g_iconst C (n := 1) dX4_findJoined_22 (by decide) ?_
      refine g_istore C (i := 4) (ls' := [(4, (0, 1)), (3, (2, y6)), (0, (2, x0)), (1, (2, x1)), (2, (0, x2))]) dX4_findJoined_23 (by decide) rfl ?_
      refine g_sub [2, 3, 4, 1, 0] rfl rfl ?_
      exact tX4_findJoined_25 C hr hlk hC _ H_7 _ _ _ _ _ _ _ T0 T1 F7 h
end
theorem cX4_findJoined_ok (l : Launch) {E : En_} {sz : Int} (hC : Cl_ E.2.2.2.2.2 sz) {x0 x1 : Int} {v : V_} {out : Int × V_} (T0 : (E.2.2.2.2.2 x0 ∧ ty_ x0 = 4 ∧ ln_ x0 = 0)) (T1 : (E.2.2.2.2.2 x1 ∧ ty_ x1 = 5 ∧ ln_ x1 = 0)) (h : fX4_findJoined x0 x1 v = some out) : Met l yX4_findJoined [.code yX4_findJoined cX4_findJoined 7 (none : Option FieldType)] (rm_ 2 46) (Pc_ E sz v [(2, x0), (2, x1)]) (Qc_ E sz 9 out.1 out.2) 0 0 (fun q => E.1 < q) := by
  refine met_G0 RX4 (by decide +kernel) rfl (Nat.le_of_ble_eq_true rfl) ?_
  intro p e s m args below meth c C hr hlk
  rw [fX4_findJoined] at h
  refine g_aload_n C (f := 0) dX4_findJoined_0 0 rfl ?_
  refine g_iconst C (n := 0) dX4_findJoined_1 (by decide) ?_
  obtain ⟨v1, ev1, h⟩ := lt_e h
  refine g_putf C (k := 1) (kd := 0) okX4 (by decide) kf_RX4_39 dX4_findJoined_2 (rg_ hC T0.1) T0.2.1 rfl rfl nvI (Or.inl rfl) v1 ev1 ?_
  refine g_iconst C (n := 0) dX4_findJoined_5 (by decide) ?_
  refine g_istore_n C (f := 2) (ls' := [(2, (0, 0)), (0, (2, x0)), (1, (2, x1))]) dX4_findJoined_6 (by decide) rfl ?_
  refine g_sub [1, 2, 0] rfl rfl ?_
  exact tX4_findJoined_7 C hr hlk hC _ _ _ _ _ T0 T1 h
theorem dX4_grown_0 : decode cX4_grown 0 = .ok (.aload_n 0, 1) := by decide +kernel
theorem dX4_grown_1 : decode cX4_grown 1 = .ok (.bipush 6, 2) := by decide +kernel
theorem dX4_grown_3 : decode cX4_grown 3 = .ok (.invokevirtual 166, 3) := by decide +kernel
theorem dX4_grown_6 : decode cX4_grown 6 = .ok (.aload_n 0, 1) := by decide +kernel
theorem dX4_grown_7 : decode cX4_grown 7 = .ok (.bipush 7, 2) := by decide +kernel
theorem dX4_grown_9 : decode cX4_grown 9 = .ok (.invokevirtual 166, 3) := by decide +kernel
theorem dX4_grown_12 : decode cX4_grown 12 = .ok (.iadd, 1) := by decide +kernel
theorem dX4_grown_13 : decode cX4_grown 13 = .ok (.istore_n 2, 1) := by decide +kernel
theorem dX4_grown_14 : decode cX4_grown 14 = .ok (.iconst 0, 1) := by decide +kernel
theorem dX4_grown_15 : decode cX4_grown 15 = .ok (.istore_n 3, 1) := by decide +kernel
theorem dX4_grown_16 : decode cX4_grown 16 = .ok (.iload_n 3, 1) := by decide +kernel
theorem dX4_grown_17 : decode cX4_grown 17 = .ok (.aload_n 1, 1) := by decide +kernel
theorem dX4_grown_18 : decode cX4_grown 18 = .ok (.getfield 101, 3) := by decide +kernel
theorem dX4_grown_21 : decode cX4_grown 21 = .ok (.if_icmp .ge 32, 3) := by decide +kernel
theorem dX4_grown_24 : decode cX4_grown 24 = .ok (.iload_n 2, 1) := by decide +kernel
theorem dX4_grown_25 : decode cX4_grown 25 = .ok (.aload_n 0, 1) := by decide +kernel
theorem dX4_grown_26 : decode cX4_grown 26 = .ok (.iload_n 3, 1) := by decide +kernel
theorem dX4_grown_27 : decode cX4_grown 27 = .ok (.invokevirtual 130, 3) := by decide +kernel
theorem dX4_grown_30 : decode cX4_grown 30 = .ok (.ifCond .eq 14, 3) := by decide +kernel
theorem dX4_grown_33 : decode cX4_grown 33 = .ok (.aload_n 1, 1) := by decide +kernel
theorem dX4_grown_34 : decode cX4_grown 34 = .ok (.getfield 169, 3) := by decide +kernel
theorem dX4_grown_37 : decode cX4_grown 37 = .ok (.iload_n 3, 1) := by decide +kernel
theorem dX4_grown_38 : decode cX4_grown 38 = .ok (.iaload, 1) := by decide +kernel
theorem dX4_grown_39 : decode cX4_grown 39 = .ok (.iconst 1, 1) := by decide +kernel
theorem dX4_grown_40 : decode cX4_grown 40 = .ok (.iadd, 1) := by decide +kernel
theorem dX4_grown_41 : decode cX4_grown 41 = .ok (.goto 4, 3) := by decide +kernel
theorem dX4_grown_44 : decode cX4_grown 44 = .ok (.iconst 0, 1) := by decide +kernel
theorem dX4_grown_45 : decode cX4_grown 45 = .ok (.iadd, 1) := by decide +kernel
theorem dX4_grown_46 : decode cX4_grown 46 = .ok (.istore_n 2, 1) := by decide +kernel
theorem dX4_grown_47 : decode cX4_grown 47 = .ok (.iinc 3 1, 3) := by decide +kernel
theorem dX4_grown_50 : decode cX4_grown 50 = .ok (.goto (-34), 3) := by decide +kernel
theorem dX4_grown_53 : decode cX4_grown 53 = .ok (.iload_n 2, 1) := by decide +kernel
theorem dX4_grown_54 : decode cX4_grown 54 = .ok (.ireturn, 1) := by decide +kernel
def fX4_grown_45 (k16 : Int → Int → Int → Int → V_ → Option (Int × V_)) (x0 x1 x3 s0 s1 : Int) (v : V_) : Option (Int × V_) :=
  lt_ (wr_ (s0 + s1)) fun y7 =>
  lt_ (wr_ (x3 + 1)) fun y8 =>
  k16 x0 x1 y7 y8 v
def fX4_grown_16 : Nat → Int → Int → Int → Int → V_ → Option (Int × V_)
  | 0, _, _, _, _, _ => none
  | n + 1, x0, x1, x2, x3, v =>
    if (v x1 0) ≤ x3 then (
      some (x2, v))
    else (
      bd_ (fX4_joins x0 x3 v) fun q5 =>
      if q5.1 = 0 then (
        fX4_grown_45 (fX4_grown_16 n) x0 x1 x3 x2 0 q5.2)
      else (
        ck_ (0 ≤ x3 ∧ x3 < 8) (
        fX4_grown_45 (fX4_grown_16 n) x0 x1 x3 x2 (wr_ ((q5.2 (x1 + 1) x3) + 1)) q5.2)))
def fX4_grown (x0 x1 : Int) (v : V_) : Option (Int × V_) :=
  bd_ (fX4_added x0 6 v) fun q1 =>
  bd_ (fX4_added x0 7 q1.2) fun q2 =>
  lt_ (wr_ (q1.1 + q2.1)) fun y3 =>
  fX4_grown_16 fu_ x0 x1 y3 0 q2.2
section
variable {E : En_} {p : Program} {l : Launch} {e : Env} {s : State} {m : MethodId} {args : Array Value} {below : List Frame} {meth : Method} {c : Code} {sz : Int}
theorem tX4_grown_45 (C : MC_ E p s m c cX4_grown 4 RX4) (hr : meth.sig.returnType = (some FieldType.int)) (hlk : meth.locks = false) (hC : Cl_ E.2.2.2.2.2 sz) {out : Int × V_} (k16 : Int → Int → Int → Int → V_ → Option (Int × V_)) (H_16 : ∀ (x0 x1 x2 x3 : Int) (v : V_), (E.2.2.2.2.2 x0 ∧ ty_ x0 = 4 ∧ ln_ x0 = 0) → (E.2.2.2.2.2 x1 ∧ ty_ x1 = 5 ∧ ln_ x1 = 0) → k16 x0 x1 x2 x3 v = some out → G_ E p l e (rm_ 2 44) s m args below meth c 4 sz (Q_ E below args s sz sz 0 out.1 out.2) 16 [(0, (2, x0)), (1, (2, x1)), (2, (0, x2)), (3, (0, x3))] [] v sz) (x0 x1 x3 s0 s1 : Int) (v : V_) (T0 : (E.2.2.2.2.2 x0 ∧ ty_ x0 = 4 ∧ ln_ x0 = 0)) (T1 : (E.2.2.2.2.2 x1 ∧ ty_ x1 = 5 ∧ ln_ x1 = 0)) (h : fX4_grown_45 k16 x0 x1 x3 s0 s1 v = some out) : G_ E p l e (rm_ 2 44) s m args below meth c 4 sz (Q_ E below args s sz sz 0 out.1 out.2) 45 [(0, (2, x0)), (1, (2, x1)), (3, (0, x3))] [(0, s1), (0, s0)] v sz := by
  rw [fX4_grown_45] at h
  refine g_iadd C dX4_grown_45 ?_
  obtain ⟨y7, ey7, h⟩ := lt_e h
  refine g_set C ey7 ?_
  refine g_istore_n C (f := 2) (ls' := [(2, (0, y7)), (0, (2, x0)), (1, (2, x1)), (3, (0, x3))]) dX4_grown_46 (by decide) rfl ?_
  obtain ⟨y8, ey8, h⟩ := lt_e h
  refine g_iincx C (ls' := [(3, (0, y8)), (2, (0, y7)), (0, (2, x0)), (1, (2, x1))]) ey8 dX4_grown_47 3 rfl (by decide) (by decide) rfl ?_
  refine g_goto C 16 dX4_grown_50 rfl ?_
  refine g_sub [2, 3, 1, 0] rfl rfl ?_
  exact H_16 _ _ _ _ _ T0 T1 h
theorem tX4_grown_16 (C : MC_ E p s m c cX4_grown 4 RX4) (hr : meth.sig.returnType = (some FieldType.int)) (hlk : meth.locks = false) (hC : Cl_ E.2.2.2.2.2 sz) {out : Int × V_} : ∀ (n : Nat) (x0 x1 x2 x3 : Int) (v : V_), (E.2.2.2.2.2 x0 ∧ ty_ x0 = 4 ∧ ln_ x0 = 0) → (E.2.2.2.2.2 x1 ∧ ty_ x1 = 5 ∧ ln_ x1 = 0) → fX4_grown_16 n x0 x1 x2 x3 v = some out → G_ E p l e (rm_ 2 44) s m args below meth c 4 sz (Q_ E below args s sz sz 0 out.1 out.2) 16 [(0, (2, x0)), (1, (2, x1)), (2, (0, x2)), (3, (0, x3))] [] v sz := by
  intro n
  induction n with
  | zero =>
    intro x0 x1 x2 x3 v T0 T1 h
    cases h
  | succ n H_16 =>
    intro x0 x1 x2 x3 v T0 T1 h
    rw [fX4_grown_16] at h
    refine g_iload_n C (f := 3) dX4_grown_16 3 rfl ?_
    refine g_aload_n C (f := 1) dX4_grown_17 1 rfl ?_
    refine g_getf C (k := 0) (kd := 0) okX5 (by decide) kf_RX4_101 dX4_grown_18 (rg_ hC T1.1) T1.2.1 rfl ?_
    refine g_icmp_ge C 53 dX4_grown_21 rfl (fun c4 => ?_) (fun c4 => ?_)
    · replace h := if_t h c4
      refine g_iload_n C (f := 2) dX4_grown_53 2 rfl ?_
      cases h
      exact g_iret C dX4_grown_54 hr hlk
    · replace h := if_f h c4
      refine g_iload_n C (f := 2) dX4_grown_24 2 rfl ?_
      refine g_aload_n C (f := 0) dX4_grown_25 0 rfl ?_
      refine g_iload_n C (f := 3) dX4_grown_26 3 rfl ?_
      obtain ⟨q5, eq5, h⟩ := bd_e h
      refine g_cV C [(0, x3)] (cX4_joins_ok l hC T0 eq5) okX4 T0.2.1 (rg_ hC T0.1) km_RX4_130 cv_X4_joins rfl (by decide) rfl rfl (Nat.le_of_ble_eq_true rfl) dX4_grown_27 ?_
      refine g_if_eq C 44 dX4_grown_30 rfl (fun c6 => ?_) (fun c6 => ?_)
      · replace h := if_t h c6
        refine g_iconst C (n := 0) dX4_grown_44 (by decide) ?_
        refine g_sub [0, 1, 3] rfl rfl ?_
        exact tX4_grown_45 C hr hlk hC _ H_16 _ _ _ _ _ _ T0 T1 h
      · replace h := if_f h c6
        refine g_aload_n C (f := 1) dX4_grown_33 1 rfl ?_
        have F9 := fX5_1 hC T1.1 T1.2.1
        refine g_getR C (k := 1) (o := 1) okX5 (by decide) kf_RX4_169 dX4_grown_34 hC T1.1 T1.2.1 rfl rfl ?_
        refine g_iload_n C (f := 3) dX4_grown_37 3 rfl ?_
        obtain ⟨c10, h⟩ := ck_e h
        refine g_iald C 8 dX4_grown_38 (rg_ hC F9.1) F9.2.1 F9.2.2 c10 ?_
        refine g_iconst C (n := 1) dX4_grown_39 (by decide) ?_
        refine g_iadd C dX4_grown_40 ?_
        refine g_goto C 45 dX4_grown_41 rfl ?_
        refine g_sub [0, 1, 3] rfl rfl ?_
        exact tX4_grown_45 C hr hlk hC _ H_16 _ _ _ _ _ _ T0 T1 h
end
theorem cX4_grown_ok (l : Launch) {E : En_} {sz : Int} (hC : Cl_ E.2.2.2.2.2 sz) {x0 x1 : Int} {v : V_} {out : Int × V_} (T0 : (E.2.2.2.2.2 x0 ∧ ty_ x0 = 4 ∧ ln_ x0 = 0)) (T1 : (E.2.2.2.2.2 x1 ∧ ty_ x1 = 5 ∧ ln_ x1 = 0)) (h : fX4_grown x0 x1 v = some out) : Met l yX4_grown [.code yX4_grown cX4_grown 4 (some FieldType.int)] (rm_ 2 44) (Pc_ E sz v [(2, x0), (2, x1)]) (Qc_ E sz 0 out.1 out.2) 0 0 (fun q => E.1 < q) := by
  refine met_G0 RX4 (by decide +kernel) rfl (Nat.le_of_ble_eq_true rfl) ?_
  intro p e s m args below meth c C hr hlk
  rw [fX4_grown] at h
  refine g_aload_n C (f := 0) dX4_grown_0 0 rfl ?_
  refine g_bipush C (n := 6) dX4_grown_1 (by decide) ?_
  obtain ⟨q1, eq1, h⟩ := bd_e h
  refine g_cV C [(0, 6)] (cX4_added_ok l hC T0 eq1) okX4 T0.2.1 (rg_ hC T0.1) km_RX4_166 cv_X4_added rfl (by decide) rfl rfl (Nat.le_of_ble_eq_true rfl) dX4_grown_3 ?_
  refine g_aload_n C (f := 0) dX4_grown_6 0 rfl ?_
  refine g_bipush C (n := 7) dX4_grown_7 (by decide) ?_
  obtain ⟨q2, eq2, h⟩ := bd_e h
  refine g_cV C [(0, 7)] (cX4_added_ok l hC T0 eq2) okX4 T0.2.1 (rg_ hC T0.1) km_RX4_166 cv_X4_added rfl (by decide) rfl rfl (Nat.le_of_ble_eq_true rfl) dX4_grown_9 ?_
  refine g_iadd C dX4_grown_12 ?_
  obtain ⟨y3, ey3, h⟩ := lt_e h
  refine g_set C ey3 ?_
  refine g_istore_n C (f := 2) (ls' := [(2, (0, y3)), (0, (2, x0)), (1, (2, x1))]) dX4_grown_13 (by decide) rfl ?_
  refine g_iconst C (n := 0) dX4_grown_14 (by decide) ?_
  refine g_istore_n C (f := 3) (ls' := [(3, (0, 0)), (2, (0, y3)), (0, (2, x0)), (1, (2, x1))]) dX4_grown_15 (by decide) rfl ?_
  refine g_sub [2, 3, 1, 0] rfl rfl ?_
  exact tX4_grown_16 C hr hlk hC _ _ _ _ _ _ T0 T1 h
theorem dX10_findFloor_0 : decode cX10_findFloor 0 = .ok (.aload_n 0, 1) := by decide +kernel
theorem dX10_findFloor_1 : decode cX10_findFloor 1 = .ok (.aload_n 0, 1) := by decide +kernel
theorem dX10_findFloor_2 : decode cX10_findFloor 2 = .ok (.getfield 178, 3) := by decide +kernel
theorem dX10_findFloor_5 : decode cX10_findFloor 5 = .ok (.putfield 184, 3) := by decide +kernel
theorem dX10_findFloor_8 : decode cX10_findFloor 8 = .ok (.iconst 0, 1) := by decide +kernel
theorem dX10_findFloor_9 : decode cX10_findFloor 9 = .ok (.istore_n 2, 1) := by decide +kernel
theorem dX10_findFloor_10 : decode cX10_findFloor 10 = .ok (.iload_n 2, 1) := by decide +kernel
theorem dX10_findFloor_11 : decode cX10_findFloor 11 = .ok (.iconst 4, 1) := by decide +kernel
theorem dX10_findFloor_12 : decode cX10_findFloor 12 = .ok (.if_icmp .ge 83, 3) := by decide +kernel
theorem dX10_findFloor_15 : decode cX10_findFloor 15 = .ok (.iconst 0, 1) := by decide +kernel
theorem dX10_findFloor_16 : decode cX10_findFloor 16 = .ok (.istore_n 3, 1) := by decide +kernel
theorem dX10_findFloor_17 : decode cX10_findFloor 17 = .ok (.iconst 0, 1) := by decide +kernel
theorem dX10_findFloor_18 : decode cX10_findFloor 18 = .ok (.istore 4, 2) := by decide +kernel
theorem dX10_findFloor_20 : decode cX10_findFloor 20 = .ok (.iload 4, 2) := by decide +kernel
theorem dX10_findFloor_22 : decode cX10_findFloor 22 = .ok (.aload_n 0, 1) := by decide +kernel
theorem dX10_findFloor_23 : decode cX10_findFloor 23 = .ok (.getfield 38, 3) := by decide +kernel
theorem dX10_findFloor_26 : decode cX10_findFloor 26 = .ok (.if_icmp .ge 34, 3) := by decide +kernel
theorem dX10_findFloor_29 : decode cX10_findFloor 29 = .ok (.iload_n 3, 1) := by decide +kernel
theorem dX10_findFloor_30 : decode cX10_findFloor 30 = .ok (.aload_n 0, 1) := by decide +kernel
theorem dX10_findFloor_31 : decode cX10_findFloor 31 = .ok (.getfield 17, 3) := by decide +kernel
theorem dX10_findFloor_34 : decode cX10_findFloor 34 = .ok (.iload 4, 2) := by decide +kernel
theorem dX10_findFloor_36 : decode cX10_findFloor 36 = .ok (.aaload, 1) := by decide +kernel
theorem dX10_findFloor_37 : decode cX10_findFloor 37 = .ok (.getfield 83, 3) := by decide +kernel
theorem dX10_findFloor_40 : decode cX10_findFloor 40 = .ok (.invokevirtual 129, 3) := by decide +kernel
theorem dX10_findFloor_43 : decode cX10_findFloor 43 = .ok (.iload_n 2, 1) := by decide +kernel
theorem dX10_findFloor_44 : decode cX10_findFloor 44 = .ok (.if_icmp .ne 7, 3) := by decide +kernel
theorem dX10_findFloor_47 : decode cX10_findFloor 47 = .ok (.iconst 1, 1) := by decide +kernel
theorem dX10_findFloor_48 : decode cX10_findFloor 48 = .ok (.goto 4, 3) := by decide +kernel
theorem dX10_findFloor_51 : decode cX10_findFloor 51 = .ok (.iconst 0, 1) := by decide +kernel
theorem dX10_findFloor_52 : decode cX10_findFloor 52 = .ok (.iadd, 1) := by decide +kernel
theorem dX10_findFloor_53 : decode cX10_findFloor 53 = .ok (.istore_n 3, 1) := by decide +kernel
theorem dX10_findFloor_54 : decode cX10_findFloor 54 = .ok (.iinc 4 1, 3) := by decide +kernel
theorem dX10_findFloor_57 : decode cX10_findFloor 57 = .ok (.goto (-37), 3) := by decide +kernel
theorem dX10_findFloor_60 : decode cX10_findFloor 60 = .ok (.iconst 1, 1) := by decide +kernel
theorem dX10_findFloor_61 : decode cX10_findFloor 61 = .ok (.aload_n 1, 1) := by decide +kernel
theorem dX10_findFloor_62 : decode cX10_findFloor 62 = .ok (.iload_n 2, 1) := by decide +kernel
theorem dX10_findFloor_63 : decode cX10_findFloor 63 = .ok (.iaload, 1) := by decide +kernel
theorem dX10_findFloor_64 : decode cX10_findFloor 64 = .ok (.invokestatic 170, 3) := by decide +kernel
theorem dX10_findFloor_67 : decode cX10_findFloor 67 = .ok (.istore 4, 2) := by decide +kernel
theorem dX10_findFloor_69 : decode cX10_findFloor 69 = .ok (.aload_n 0, 1) := by decide +kernel
theorem dX10_findFloor_70 : decode cX10_findFloor 70 = .ok (.aload_n 0, 1) := by decide +kernel
theorem dX10_findFloor_71 : decode cX10_findFloor 71 = .ok (.getfield 184, 3) := by decide +kernel
theorem dX10_findFloor_74 : decode cX10_findFloor 74 = .ok (.iload_n 3, 1) := by decide +kernel
theorem dX10_findFloor_75 : decode cX10_findFloor 75 = .ok (.iload 4, 2) := by decide +kernel
theorem dX10_findFloor_77 : decode cX10_findFloor 77 = .ok (.iadd, 1) := by decide +kernel
theorem dX10_findFloor_78 : decode cX10_findFloor 78 = .ok (.iconst 1, 1) := by decide +kernel
theorem dX10_findFloor_79 : decode cX10_findFloor 79 = .ok (.isub, 1) := by decide +kernel
theorem dX10_findFloor_80 : decode cX10_findFloor 80 = .ok (.iload 4, 2) := by decide +kernel
theorem dX10_findFloor_82 : decode cX10_findFloor 82 = .ok (.idiv, 1) := by decide +kernel
theorem dX10_findFloor_83 : decode cX10_findFloor 83 = .ok (.invokestatic 170, 3) := by decide +kernel
theorem dX10_findFloor_86 : decode cX10_findFloor 86 = .ok (.putfield 184, 3) := by decide +kernel
theorem dX10_findFloor_89 : decode cX10_findFloor 89 = .ok (.iinc 2 1, 3) := by decide +kernel
theorem dX10_findFloor_92 : decode cX10_findFloor 92 = .ok (.goto (-82), 3) := by decide +kernel
theorem dX10_findFloor_95 : decode cX10_findFloor 95 = .ok (.return_, 1) := by decide +kernel
def fX10_findFloor_52 (k10 : Int → Int → Int → V_ → Option (Int × V_)) (k20 : Int → Int → Int → Int → Int → V_ → Option (Int × V_)) (x0 x1 x2 x4 s0 s1 : Int) (v : V_) : Option (Int × V_) :=
  lt_ (wr_ (s0 + s1)) fun y15 =>
  lt_ (wr_ (x4 + 1)) fun y16 =>
  k20 x0 x1 x2 y15 y16 v
def fX10_findFloor_20 (k10 : Int → Int → Int → V_ → Option (Int × V_)) : Nat → Int → Int → Int → Int → Int → V_ → Option (Int × V_)
  | 0, _, _, _, _, _, _ => none
  | n + 1, x0, x1, x2, x3, x4, v =>
    if (v x0 3) ≤ x4 then (
      ck_ (0 ≤ x2 ∧ x2 < 4) (
      lt_ (mx_ 1 (v x1 x2)) fun y5 =>
      ck_ (y5 ≠ 0) (
      lt_ (up_ v x0 8 (mx_ (v x0 8) (wr_ (Int.tdiv (wr_ ((wr_ (x3 + y5)) - 1)) y5)))) fun v7 =>
      lt_ (wr_ (x2 + 1)) fun y8 =>
      k10 x0 x1 y8 v7)))
    else (
      ck_ (0 ≤ x4 ∧ x4 < 34) (
      bd_ (fX8_kindOf (((x0 + 2) + (5 + 2 * x4)) + 1) v) fun q13 =>
      if q13.1 = x2 then (
        fX10_findFloor_52 k10 (fX10_findFloor_20 k10 n) x0 x1 x2 x4 x3 1 q13.2)
      else (
        fX10_findFloor_52 k10 (fX10_findFloor_20 k10 n) x0 x1 x2 x4 x3 0 q13.2)))
def fX10_findFloor_10 : Nat → Int → Int → Int → V_ → Option (Int × V_)
  | 0, _, _, _, _ => none
  | n + 1, x0, x1, x2, v =>
    if 4 ≤ x2 then (
      some (0, v))
    else (
      fX10_findFloor_20 (fX10_findFloor_10 n) fu_ x0 x1 x2 0 0 v)
def fX10_findFloor (x0 x1 : Int) (v : V_) : Option (Int × V_) :=
  lt_ (up_ v x0 8 (v x0 7)) fun v1 =>
  fX10_findFloor_10 fu_ x0 x1 0 v1
section
variable {E : En_} {p : Program} {l : Launch} {e : Env} {s : State} {m : MethodId} {args : Array Value} {below : List Frame} {meth : Method} {c : Code} {sz : Int}
theorem tX10_findFloor_52 (C : MC_ E p s m c cX10_findFloor 5 RX10) (hr : meth.sig.returnType = (none : Option FieldType)) (hlk : meth.locks = false) (hC : Cl_ E.2.2.2.2.2 sz) {out : Int × V_} (k10 : Int → Int → Int → V_ → Option (Int × V_)) (H_10 : ∀ (x0 x1 x2 : Int) (v : V_), (E.2.2.2.2.2 x0 ∧ ty_ x0 = 10 ∧ ln_ x0 = 0) → (E.2.2.2.2.2 x1 ∧ ty_ x1 = 20 ∧ ln_ x1 = 4) → k10 x0 x1 x2 v = some out → G_ E p l e (rm_ 1 21) s m args below meth c 5 sz (Q_ E below args s sz sz 9 out.1 out.2) 10 [(0, (2, x0)), (1, (2, x1)), (2, (0, x2))] [] v sz) (k20 : Int → Int → Int → Int → Int → V_ → Option (Int × V_)) (H_20 : ∀ (x0 x1 x2 x3 x4 : Int) (v : V_), (E.2.2.2.2.2 x0 ∧ ty_ x0 = 10 ∧ ln_ x0 = 0) → (E.2.2.2.2.2 x1 ∧ ty_ x1 = 20 ∧ ln_ x1 = 4) → k20 x0 x1 x2 x3 x4 v = some out → G_ E p l e (rm_ 1 21) s m args below meth c 5 sz (Q_ E below args s sz sz 9 out.1 out.2) 20 [(0, (2, x0)), (1, (2, x1)), (2, (0, x2)), (3, (0, x3)), (4, (0, x4))] [] v sz) (x0 x1 x2 x4 s0 s1 : Int) (v : V_) (T0 : (E.2.2.2.2.2 x0 ∧ ty_ x0 = 10 ∧ ln_ x0 = 0)) (T1 : (E.2.2.2.2.2 x1 ∧ ty_ x1 = 20 ∧ ln_ x1 = 4)) (h : fX10_findFloor_52 k10 k20 x0 x1 x2 x4 s0 s1 v = some out) : G_ E p l e (rm_ 1 21) s m args below meth c 5 sz (Q_ E below args s sz sz 9 out.1 out.2) 52 [(0, (2, x0)), (1, (2, x1)), (2, (0, x2)), (4, (0, x4))] [(0, s1), (0, s0)] v sz := by
  rw [fX10_findFloor_52] at h
  refine g_iadd C dX10_findFloor_52 ?_
  obtain ⟨y15, ey15, h⟩ := lt_e h
  refine g_set C ey15 ?_
  refine g_istore_n C (f := 3) (ls' := [(3, (0, y15)), (0, (2, x0)), (1, (2, x1)), (2, (0, x2)), (4, (0, x4))]) dX10_findFloor_53 (by decide) rfl ?_
  obtain ⟨y16, ey16, h⟩ := lt_e h
  refine g_iincx C (ls' := [(4, (0, y16)), (3, (0, y15)), (0, (2, x0)), (1, (2, x1)), (2, (0, x2))]) ey16 dX10_findFloor_54 4 rfl (by decide) (by decide) rfl ?_
  refine g_goto C 20 dX10_findFloor_57 rfl ?_
  refine g_sub [2, 3, 4, 1, 0] rfl rfl ?_
  exact H_20 _ _ _ _ _ _ T0 T1 h
theorem tX10_findFloor_20 (C : MC_ E p s m c cX10_findFloor 5 RX10) (hr : meth.sig.returnType = (none : Option FieldType)) (hlk : meth.locks = false) (hC : Cl_ E.2.2.2.2.2 sz) {out : Int × V_} (k10 : Int → Int → Int → V_ → Option (Int × V_)) (H_10 : ∀ (x0 x1 x2 : Int) (v : V_), (E.2.2.2.2.2 x0 ∧ ty_ x0 = 10 ∧ ln_ x0 = 0) → (E.2.2.2.2.2 x1 ∧ ty_ x1 = 20 ∧ ln_ x1 = 4) → k10 x0 x1 x2 v = some out → G_ E p l e (rm_ 1 21) s m args below meth c 5 sz (Q_ E below args s sz sz 9 out.1 out.2) 10 [(0, (2, x0)), (1, (2, x1)), (2, (0, x2))] [] v sz) : ∀ (n : Nat) (x0 x1 x2 x3 x4 : Int) (v : V_), (E.2.2.2.2.2 x0 ∧ ty_ x0 = 10 ∧ ln_ x0 = 0) → (E.2.2.2.2.2 x1 ∧ ty_ x1 = 20 ∧ ln_ x1 = 4) → fX10_findFloor_20 k10 n x0 x1 x2 x3 x4 v = some out → G_ E p l e (rm_ 1 21) s m args below meth c 5 sz (Q_ E below args s sz sz 9 out.1 out.2) 20 [(0, (2, x0)), (1, (2, x1)), (2, (0, x2)), (3, (0, x3)), (4, (0, x4))] [] v sz := by
  intro n
  induction n with
  | zero =>
    intro x0 x1 x2 x3 x4 v T0 T1 h
    cases h
  | succ n H_20 =>
    intro x0 x1 x2 x3 x4 v T0 T1 h
    rw [fX10_findFloor_20] at h
    refine g_iload C (i := 4) dX10_findFloor_20 4 rfl ?_
    refine g_aload_n C (f := 0) dX10_findFloor_22 0 rfl ?_
    refine g_getf C (k := 3) (kd := 0) okX10 (by decide) kf_RX10_38 dX10_findFloor_23 (rg_ hC T0.1) T0.2.1 rfl ?_
    refine g_icmp_ge C 60 dX10_findFloor_26 rfl (fun c3 => ?_) (fun c3 => ?_)
    · replace h := if_t h c3
      refine g_iconst C (n := 1) dX10_findFloor_60 (by decide) ?_
      refine g_aload_n C (f := 1) dX10_findFloor_61 1 rfl ?_
      refine g_iload_n C (f := 2) dX10_findFloor_62 2 rfl ?_
      obtain ⟨c4, h⟩ := ck_e h
      refine g_iald C 4 dX10_findFloor_63 (rg_ hC T1.1) T1.2.1 T1.2.2 c4 ?_
      refine g_max0 C km_RX10_170 dX10_findFloor_64 ⟨Nat.le_of_ble_eq_true rfl, Nat.le_of_ble_eq_true rfl⟩ ?_
      obtain ⟨y5, ey5, h⟩ := lt_e h
      refine g_set C ey5 ?_
      refine g_istore C (i := 4) (ls' := [(4, (0, y5)), (0, (2, x0)), (1, (2, x1)), (2, (0, x2)), (3, (0, x3))]) dX10_findFloor_67 (by decide) rfl ?_
      refine g_aload_n C (f := 0) dX10_findFloor_69 1 rfl ?_
      refine g_aload_n C (f := 0) dX10_findFloor_70 1 rfl ?_
      refine g_getf C (k := 8) (kd := 0) okX10 (by decide) kf_RX10_184 dX10_findFloor_71 (rg_ hC T0.1) T0.2.1 rfl ?_
      refine g_iload_n C (f := 3) dX10_findFloor_74 4 rfl ?_
      refine g_iload C (i := 4) dX10_findFloor_75 0 rfl ?_
      refine g_iadd C dX10_findFloor_77 ?_
      refine g_iconst C (n := 1) dX10_findFloor_78 (by decide) ?_
      refine g_isub C dX10_findFloor_79 ?_
      refine g_iload C (i := 4) dX10_findFloor_80 0 rfl ?_
      obtain ⟨c6, h⟩ := ck_e h
      refine g_idiv C dX10_findFloor_82 c6 ?_
      refine g_max0 C km_RX10_170 dX10_findFloor_83 ⟨Nat.le_of_ble_eq_true rfl, Nat.le_of_ble_eq_true rfl⟩ ?_
      obtain ⟨v7, ev7, h⟩ := lt_e h
      refine g_putf C (k := 8) (kd := 0) okX10 (by decide) kf_RX10_184 dX10_findFloor_86 (rg_ hC T0.1) T0.2.1 rfl rfl nvI (Or.inl rfl) v7 ev7 ?_
      obtain ⟨y8, ey8, h⟩ := lt_e h
      refine g_iincx C (ls' := [(2, (0, y8)), (4, (0, y5)), (0, (2, x0)), (1, (2, x1)), (3, (0, x3))]) ey8 dX10_findFloor_89 3 rfl (by decide) (by decide) rfl ?_
      refine g_goto C 10 dX10_findFloor_92 rfl ?_
      refine g_sub [2, 3, 0] rfl rfl ?_
      exact H_10 _ _ _ _ T0 T1 h
    · replace h := if_f h c3
      refine g_iload_n C (f := 3) dX10_findFloor_29 3 rfl ?_
      refine g_aload_n C (f := 0) dX10_findFloor_30 0 rfl ?_
      have F9 := fX10_2 hC T0.1 T0.2.1
      refine g_getR C (k := 2) (o := 2) okX10 (by decide) kf_RX10_17 dX10_findFloor_31 hC T0.1 T0.2.1 rfl rfl ?_
      refine g_iload C (i := 4) dX10_findFloor_34 4 rfl ?_
      obtain ⟨c10, h⟩ := ck_e h
      have F11 := fE_items (i := x4) hC F9.1 F9.2.1 F9.2.2 c10
      refine g_aald C 26 34 5 2 dX10_findFloor_36 hC F9.1 F9.2.1 F9.2.2 c10 (by decide) oA_items ?_
      have F12 := fX1_0 hC F11.1 F11.2.1
      refine g_getR C (k := 0) (o := 1) okX1 (by decide) kf_RX10_83 dX10_findFloor_37 hC F11.1 F11.2.1 rfl rfl ?_
      obtain ⟨q13, eq13, h⟩ := bd_e h
      refine g_cV C [] (cX8_kindOf_ok l hC F12 eq13) okX8 F12.2.1 (rg_ hC F12.1) km_RX10_129 cv_X8_kindOf rfl (by decide) rfl rfl (Nat.le_of_ble_eq_true rfl) dX10_findFloor_40 ?_
      refine g_iload_n C (f := 2) dX10_findFloor_43 2 rfl ?_
      refine g_icmp_ne C 51 dX10_findFloor_44 rfl (fun c14 => ?_) (fun c14 => ?_)
      · replace h := if_f h c14
        refine g_iconst C (n := 0) dX10_findFloor_51 (by decide) ?_
        refine g_sub [0, 1, 2, 4] rfl rfl ?_
        exact tX10_findFloor_52 C hr hlk hC _ H_10 _ H_20 _ _ _ _ _ _ _ T0 T1 h
      · replace h := if_t h c14
        refine g_iconst C (n := 1) dX10_findFloor_47 (by decide) ?_
        refine g_goto C 52 dX10_findFloor_48 rfl ?_
        refine g_sub [0, 1, 2, 4] rfl rfl ?_
        exact tX10_findFloor_52 C hr hlk hC _ H_10 _ H_20 _ _ _ _ _ _ _ T0 T1 h
theorem tX10_findFloor_10 (C : MC_ E p s m c cX10_findFloor 5 RX10) (hr : meth.sig.returnType = (none : Option FieldType)) (hlk : meth.locks = false) (hC : Cl_ E.2.2.2.2.2 sz) {out : Int × V_} : ∀ (n : Nat) (x0 x1 x2 : Int) (v : V_), (E.2.2.2.2.2 x0 ∧ ty_ x0 = 10 ∧ ln_ x0 = 0) → (E.2.2.2.2.2 x1 ∧ ty_ x1 = 20 ∧ ln_ x1 = 4) → fX10_findFloor_10 n x0 x1 x2 v = some out → G_ E p l e (rm_ 1 21) s m args below meth c 5 sz (Q_ E below args s sz sz 9 out.1 out.2) 10 [(0, (2, x0)), (1, (2, x1)), (2, (0, x2))] [] v sz := by
  intro n
  induction n with
  | zero =>
    intro x0 x1 x2 v T0 T1 h
    cases h
  | succ n H_10 =>
    intro x0 x1 x2 v T0 T1 h
    rw [fX10_findFloor_10] at h
    refine g_iload_n C (f := 2) dX10_findFloor_10 2 rfl ?_
    refine g_iconst C (n := 4) dX10_findFloor_11 (by decide) ?_
    refine g_icmp_ge C 95 dX10_findFloor_12 rfl (fun c2 => ?_) (fun c2 => ?_)
    · replace h := if_t h c2
      cases h
      exact g_vret C dX10_findFloor_95 hr hlk
    · replace h := if_f h c2
      refine g_iconst C (n := 0) dX10_findFloor_15 (by decide) ?_
      refine g_istore_n C (f := 3) (ls' := [(3, (0, 0)), (0, (2, x0)), (1, (2, x1)), (2, (0, x2))]) dX10_findFloor_16 (by decide) rfl ?_
      refine g_iconst C (n := 0) dX10_findFloor_17 (by decide) ?_
      refine g_istore C (i := 4) (ls' := [(4, (0, 0)), (3, (0, 0)), (0, (2, x0)), (1, (2, x1)), (2, (0, x2))]) dX10_findFloor_18 (by decide) rfl ?_
      refine g_sub [2, 3, 4, 1, 0] rfl rfl ?_
      exact tX10_findFloor_20 C hr hlk hC _ H_10 _ _ _ _ _ _ _ T0 T1 h
end
theorem cX10_findFloor_ok (l : Launch) {E : En_} {sz : Int} (hC : Cl_ E.2.2.2.2.2 sz) {x0 x1 : Int} {v : V_} {out : Int × V_} (T0 : (E.2.2.2.2.2 x0 ∧ ty_ x0 = 10 ∧ ln_ x0 = 0)) (T1 : (E.2.2.2.2.2 x1 ∧ ty_ x1 = 20 ∧ ln_ x1 = 4)) (h : fX10_findFloor x0 x1 v = some out) : Met l yX10_findFloor [.code yX10_findFloor cX10_findFloor 5 (none : Option FieldType)] (rm_ 1 21) (Pc_ E sz v [(2, x0), (2, x1)]) (Qc_ E sz 9 out.1 out.2) 0 0 (fun q => E.1 < q) := by
  refine met_G0 RX10 (by decide +kernel) rfl (Nat.le_of_ble_eq_true rfl) ?_
  intro p e s m args below meth c C hr hlk
  rw [fX10_findFloor] at h
  refine g_aload_n C (f := 0) dX10_findFloor_0 0 rfl ?_
  refine g_aload_n C (f := 0) dX10_findFloor_1 0 rfl ?_
  refine g_getf C (k := 7) (kd := 0) okX10 (by decide) kf_RX10_178 dX10_findFloor_2 (rg_ hC T0.1) T0.2.1 rfl ?_
  obtain ⟨v1, ev1, h⟩ := lt_e h
  refine g_putf C (k := 8) (kd := 0) okX10 (by decide) kf_RX10_184 dX10_findFloor_5 (rg_ hC T0.1) T0.2.1 rfl rfl nvI (Or.inl rfl) v1 ev1 ?_
  refine g_iconst C (n := 0) dX10_findFloor_8 (by decide) ?_
  refine g_istore_n C (f := 2) (ls' := [(2, (0, 0)), (0, (2, x0)), (1, (2, x1))]) dX10_findFloor_9 (by decide) rfl ?_
  refine g_sub [1, 2, 0] rfl rfl ?_
  exact tX10_findFloor_10 C hr hlk hC _ _ _ _ _ T0 T1 h
