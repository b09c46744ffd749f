theorem dX10_gather_0 : decode cX10_gather 0 = .ok (.aload_n 0, 1) := by decide +kernel
theorem dX10_gather_1 : decode cX10_gather 1 = .ok (.iconst 0, 1) := by decide +kernel
theorem dX10_gather_2 : decode cX10_gather 2 = .ok (.putfield 38, 3) := by decide +kernel
theorem dX10_gather_5 : decode cX10_gather 5 = .ok (.aload_n 0, 1) := by decide +kernel
theorem dX10_gather_6 : decode cX10_gather 6 = .ok (.iconst 0, 1) := by decide +kernel
theorem dX10_gather_7 : decode cX10_gather 7 = .ok (.putfield 41, 3) := by decide +kernel
theorem dX10_gather_10 : decode cX10_gather 10 = .ok (.aload_n 0, 1) := by decide +kernel
theorem dX10_gather_11 : decode cX10_gather 11 = .ok (.iconst 0, 1) := by decide +kernel
theorem dX10_gather_12 : decode cX10_gather 12 = .ok (.putfield 44, 3) := by decide +kernel
theorem dX10_gather_15 : decode cX10_gather 15 = .ok (.aload_n 0, 1) := by decide +kernel
theorem dX10_gather_16 : decode cX10_gather 16 = .ok (.iconst (-1), 1) := by decide +kernel
theorem dX10_gather_17 : decode cX10_gather 17 = .ok (.putfield 47, 3) := by decide +kernel
theorem dX10_gather_20 : decode cX10_gather 20 = .ok (.aload_n 0, 1) := by decide +kernel
theorem dX10_gather_21 : decode cX10_gather 21 = .ok (.iconst 0, 1) := by decide +kernel
theorem dX10_gather_22 : decode cX10_gather 22 = .ok (.putfield 50, 3) := by decide +kernel
theorem dX10_gather_25 : decode cX10_gather 25 = .ok (.iconst 0, 1) := by decide +kernel
theorem dX10_gather_26 : decode cX10_gather 26 = .ok (.istore_n 3, 1) := by decide +kernel
theorem dX10_gather_27 : decode cX10_gather 27 = .ok (.iload_n 3, 1) := by decide +kernel
theorem dX10_gather_28 : decode cX10_gather 28 = .ok (.bipush 6, 2) := by decide +kernel
theorem dX10_gather_30 : decode cX10_gather 30 = .ok (.if_icmp .ge 16, 3) := by decide +kernel
theorem dX10_gather_33 : decode cX10_gather 33 = .ok (.aload_n 0, 1) := by decide +kernel
theorem dX10_gather_34 : decode cX10_gather 34 = .ok (.getfield 27, 3) := by decide +kernel
theorem dX10_gather_37 : decode cX10_gather 37 = .ok (.iload_n 3, 1) := by decide +kernel
theorem dX10_gather_38 : decode cX10_gather 38 = .ok (.iload_n 3, 1) := by decide +kernel
theorem dX10_gather_39 : decode cX10_gather 39 = .ok (.iastore, 1) := by decide +kernel
theorem dX10_gather_40 : decode cX10_gather 40 = .ok (.iinc 3 1, 3) := by decide +kernel
theorem dX10_gather_43 : decode cX10_gather 43 = .ok (.goto (-16), 3) := by decide +kernel
theorem dX10_gather_46 : decode cX10_gather 46 = .ok (.iconst 0, 1) := by decide +kernel
theorem dX10_gather_47 : decode cX10_gather 47 = .ok (.istore_n 3, 1) := by decide +kernel
theorem dX10_gather_48 : decode cX10_gather 48 = .ok (.iload_n 3, 1) := by decide +kernel
theorem dX10_gather_49 : decode cX10_gather 49 = .ok (.aload_n 0, 1) := by decide +kernel
theorem dX10_gather_50 : decode cX10_gather 50 = .ok (.getfield 34, 3) := by decide +kernel
theorem dX10_gather_53 : decode cX10_gather 53 = .ok (.if_icmp .ge 64, 3) := by decide +kernel
theorem dX10_gather_56 : decode cX10_gather 56 = .ok (.aload_n 0, 1) := by decide +kernel
theorem dX10_gather_57 : decode cX10_gather 57 = .ok (.getfield 9, 3) := by decide +kernel
theorem dX10_gather_60 : decode cX10_gather 60 = .ok (.iload_n 3, 1) := by decide +kernel
theorem dX10_gather_61 : decode cX10_gather 61 = .ok (.iaload, 1) := by decide +kernel
theorem dX10_gather_62 : decode cX10_gather 62 = .ok (.istore 4, 2) := by decide +kernel
theorem dX10_gather_64 : decode cX10_gather 64 = .ok (.iconst 0, 1) := by decide +kernel
theorem dX10_gather_65 : decode cX10_gather 65 = .ok (.istore 5, 2) := by decide +kernel
theorem dX10_gather_67 : decode cX10_gather 67 = .ok (.iload 5, 2) := by decide +kernel
theorem dX10_gather_69 : decode cX10_gather 69 = .ok (.aload_n 1, 1) := by decide +kernel
theorem dX10_gather_70 : decode cX10_gather 70 = .ok (.getfield 53, 3) := by decide +kernel
theorem dX10_gather_73 : decode cX10_gather 73 = .ok (.iload 4, 2) := by decide +kernel
theorem dX10_gather_75 : decode cX10_gather 75 = .ok (.iaload, 1) := by decide +kernel
theorem dX10_gather_76 : decode cX10_gather 76 = .ok (.if_icmp .ge 29, 3) := by decide +kernel
theorem dX10_gather_79 : decode cX10_gather 79 = .ok (.aload_n 0, 1) := by decide +kernel
theorem dX10_gather_80 : decode cX10_gather 80 = .ok (.aload_n 1, 1) := by decide +kernel
theorem dX10_gather_81 : decode cX10_gather 81 = .ok (.getfield 58, 3) := by decide +kernel
theorem dX10_gather_84 : decode cX10_gather 84 = .ok (.iload 4, 2) := by decide +kernel
theorem dX10_gather_86 : decode cX10_gather 86 = .ok (.bipush 6, 2) := by decide +kernel
theorem dX10_gather_88 : decode cX10_gather 88 = .ok (.imul, 1) := by decide +kernel
theorem dX10_gather_89 : decode cX10_gather 89 = .ok (.iload 5, 2) := by decide +kernel
theorem dX10_gather_91 : decode cX10_gather 91 = .ok (.iadd, 1) := by decide +kernel
theorem dX10_gather_92 : decode cX10_gather 92 = .ok (.aaload, 1) := by decide +kernel
theorem dX10_gather_93 : decode cX10_gather 93 = .ok (.iload 4, 2) := by decide +kernel
theorem dX10_gather_95 : decode cX10_gather 95 = .ok (.iload_n 2, 1) := by decide +kernel
theorem dX10_gather_96 : decode cX10_gather 96 = .ok (.invokevirtual 62, 3) := by decide +kernel
theorem dX10_gather_99 : decode cX10_gather 99 = .ok (.iinc 5 1, 3) := by decide +kernel
theorem dX10_gather_102 : decode cX10_gather 102 = .ok (.goto (-35), 3) := by decide +kernel
theorem dX10_gather_105 : decode cX10_gather 105 = .ok (.aload_n 0, 1) := by decide +kernel
theorem dX10_gather_106 : decode cX10_gather 106 = .ok (.aload_n 1, 1) := by decide +kernel
theorem dX10_gather_107 : decode cX10_gather 107 = .ok (.iload_n 3, 1) := by decide +kernel
theorem dX10_gather_108 : decode cX10_gather 108 = .ok (.invokevirtual 66, 3) := by decide +kernel
theorem dX10_gather_111 : decode cX10_gather 111 = .ok (.iinc 3 1, 3) := by decide +kernel
theorem dX10_gather_114 : decode cX10_gather 114 = .ok (.goto (-66), 3) := by decide +kernel
theorem dX10_gather_117 : decode cX10_gather 117 = .ok (.return_, 1) := by decide +kernel
def fX10_gather_67 (k48 : Int → Int → Int → Int → V_ → Option (Int × V_)) : Nat → Int → Int → Int → Int → Int → Int → V_ → Option (Int × V_)
  | 0, _, _, _, _, _, _, _ => none
  | n + 1, x0, x1, x2, x3, x4, x5, v =>
    ck_ (0 ≤ x4 ∧ x4 < 8) (
    if (v (x1 + 1) x4) ≤ x5 then (
      bd_ (fX10_addEnd x0 x1 x3 v) fun q14 =>
      lt_ (wr_ (x3 + 1)) fun y15 =>
      k48 x0 x1 x2 y15 q14.2)
    else (
      ck_ (0 ≤ wr_ ((wr_ (x4 * 6)) + x5) ∧ wr_ ((wr_ (x4 * 6)) + x5) < 48) (
      bd_ (fX10_addLine x0 ((x1 + 2) + (6 + 1 * (wr_ ((wr_ (x4 * 6)) + x5)))) x4 x2 v) fun q19 =>
      lt_ (wr_ (x5 + 1)) fun y20 =>
      (fX10_gather_67 k48 n) x0 x1 x2 x3 x4 y20 q19.2)))
def fX10_gather_48 : Nat → Int → Int → Int → Int → V_ → Option (Int × V_)
  | 0, _, _, _, _, _ => none
  | n + 1, x0, x1, x2, x3, v =>
    if (v x0 1) ≤ x3 then (
      some (0, v))
    else (
      ck_ (0 ≤ x3 ∧ x3 < 4) (
      lt_ (v (x0 + 1) x3) fun y10 =>
      fX10_gather_67 (fX10_gather_48 n) fu_ x0 x1 x2 x3 y10 0 v))
def fX10_gather_27 : Nat → Int → Int → Int → Int → V_ → Option (Int × V_)
  | 0, _, _, _, _, _ => none
  | n + 1, x0, x1, x2, x3, v =>
    if 6 ≤ x3 then (
      fX10_gather_48 fu_ x0 x1 x2 0 v)
    else (
      ck_ (0 ≤ x3 ∧ x3 < 6) (
      lt_ (up_ v (x0 + 5) x3 x3) fun v23 =>
      lt_ (wr_ (x3 + 1)) fun y24 =>
      (fX10_gather_27 n) x0 x1 x2 y24 v23))
def fX10_gather (x0 x1 x2 : Int) (v : V_) : Option (Int × V_) :=
  lt_ (up_ v x0 3 0) fun v1 =>
  lt_ (up_ v1 x0 4 0) fun v2 =>
  lt_ (up_ v2 x0 5 0) fun v3 =>
  lt_ (up_ v3 x0 16 (-1)) fun v4 =>
  lt_ (up_ v4 x0 17 0) fun v5 =>
  fX10_gather_27 fu_ x0 x1 x2 0 v5
section
variable {E : En_} {p : Program} {l : Launch} {e : Env} {s : State} {m : MethodId} {args : Array Value} {below : List Frame} {meth : Method} {c : Code} {sz : Int}
theorem tX10_gather_67 (C : MC_ E p s m c cX10_gather 6 RX10) (hr : meth.sig.returnType = (none : Option FieldType)) (hlk : meth.locks = false) (hC : Cl_ E.2.2.2.2.2 sz) {out : Int × V_} (k48 : Int → Int → Int → Int → V_ → Option (Int × V_)) (H_48 : ∀ (x0 x1 x2 x3 : Int) (v : V_), (E.2.2.2.2.2 x0 ∧ ty_ x0 = 10 ∧ ln_ x0 = 0) → (E.2.2.2.2.2 x1 ∧ ty_ x1 = 5 ∧ ln_ x1 = 0) → k48 x0 x1 x2 x3 v = some out → G_ E p l e (rm_ 3 74) s m args below meth c 6 sz (Q_ E below args s sz sz 9 out.1 out.2) 48 [(0, (2, x0)), (1, (2, x1)), (2, (0, x2)), (3, (0, x3))] [] v sz) : ∀ (n : Nat) (x0 x1 x2 x3 x4 x5 : Int) (v : V_), (E.2.2.2.2.2 x0 ∧ ty_ x0 = 10 ∧ ln_ x0 = 0) → (E.2.2.2.2.2 x1 ∧ ty_ x1 = 5 ∧ ln_ x1 = 0) → fX10_gather_67 k48 n x0 x1 x2 x3 x4 x5 v = some out → G_ E p l e (rm_ 3 74) s m args below meth c 6 sz (Q_ E below args s sz sz 9 out.1 out.2) 67 [(0, (2, x0)), (1, (2, x1)), (2, (0, x2)), (3, (0, x3)), (4, (0, x4)), (5, (0, x5))] [] v sz := by
  intro n
  induction n with
  | zero =>
    intro x0 x1 x2 x3 x4 x5 v T0 T1 h
    cases h
  | succ n H_67 =>
    intro x0 x1 x2 x3 x4 x5 v T0 T1 h
    rw [fX10_gather_67] at h
    refine g_iload C (i := 5) dX10_gather_67 5 rfl ?_
    refine g_aload_n C (f := 1) dX10_gather_69 1 rfl ?_
    have F11 := fX5_1 hC T1.1 T1.2.1
    refine g_getR C (k := 1) (o := 1) okX5 (by decide) kf_RX10_53 dX10_gather_70 hC T1.1 T1.2.1 rfl rfl ?_
    refine g_iload C (i := 4) dX10_gather_73 4 rfl ?_
    obtain ⟨c12, h⟩ := ck_e h
    refine g_iald C 8 dX10_gather_75 (rg_ hC F11.1) F11.2.1 F11.2.2 c12 ?_
    refine g_icmp_ge C 105 dX10_gather_76 rfl (fun c13 => ?_) (fun c13 => ?_)
    · replace h := if_t h c13
      refine g_aload_n C (f := 0) dX10_gather_105 0 rfl ?_
      refine g_aload_n C (f := 1) dX10_gather_106 1 rfl ?_
      refine g_iload_n C (f := 3) dX10_gather_107 3 rfl ?_
      obtain ⟨q14, eq14, h⟩ := bd_e h
      refine g_cV C [(2, x1), (0, x3)] (cX10_addEnd_ok l hC T0 T1 eq14) okX10 T0.2.1 (rg_ hC T0.1) km_RX10_66 cv_X10_addEnd rfl (by decide) rfl rfl (Nat.le_of_ble_eq_true rfl) dX10_gather_108 ?_
      obtain ⟨y15, ey15, h⟩ := lt_e h
      refine g_iincx C (ls' := [(3, (0, y15)), (0, (2, x0)), (1, (2, x1)), (2, (0, x2)), (4, (0, x4)), (5, (0, x5))]) ey15 dX10_gather_111 3 rfl (by decide) (by decide) rfl ?_
      refine g_goto C 48 dX10_gather_114 rfl ?_
      refine g_sub [1, 2, 3, 0] rfl rfl ?_
      exact H_48 _ _ _ _ _ T0 T1 h
    · replace h := if_f h c13
      refine g_aload_n C (f := 0) dX10_gather_79 0 rfl ?_
      refine g_aload_n C (f := 1) dX10_gather_80 1 rfl ?_
      have F16 := fX5_2 hC T1.1 T1.2.1
      refine g_getR C (k := 2) (o := 2) okX5 (by decide) kf_RX10_58 dX10_gather_81 hC T1.1 T1.2.1 rfl rfl ?_
      refine g_iload C (i := 4) dX10_gather_84 4 rfl ?_
      refine g_bipush C (n := 6) dX10_gather_86 (by decide) ?_
      refine g_imul C dX10_gather_88 ?_
      refine g_iload C (i := 5) dX10_gather_89 5 rfl ?_
      refine g_iadd C dX10_gather_91 ?_
      obtain ⟨c17, h⟩ := ck_e h
      have F18 := fE_lines (i := wr_ ((wr_ (x4 * 6)) + x5)) hC F16.1 F16.2.1 F16.2.2 c17
      refine g_aald C 25 48 6 1 dX10_gather_92 hC F16.1 F16.2.1 F16.2.2 c17 (by decide) oA_lines ?_
      refine g_iload C (i := 4) dX10_gather_93 4 rfl ?_
      refine g_iload_n C (f := 2) dX10_gather_95 2 rfl ?_
      obtain ⟨q19, eq19, h⟩ := bd_e h
      refine g_cV C [(2, (x1 + 2) + (6 + 1 * (wr_ ((wr_ (x4 * 6)) + x5)))), (0, x4), (0, x2)] (cX10_addLine_ok l hC T0 F18 eq19) okX10 T0.2.1 (rg_ hC T0.1) km_RX10_62 cv_X10_addLine rfl (by decide) rfl rfl (Nat.le_of_ble_eq_true rfl) dX10_gather_96 ?_
      obtain ⟨y20, ey20, h⟩ := lt_e h
      refine g_iincx C (ls' := [(5, (0, y20)), (0, (2, x0)), (1, (2, x1)), (2, (0, x2)), (3, (0, x3)), (4, (0, x4))]) ey20 dX10_gather_99 5 rfl (by decide) (by decide) rfl ?_
      refine g_goto C 67 dX10_gather_102 rfl ?_
      refine g_sub [1, 2, 3, 4, 5, 0] rfl rfl ?_
      exact H_67 _ _ _ _ _ _ _ T0 T1 h
theorem tX10_gather_48 (C : MC_ E p s m c cX10_gather 6 RX10) (hr : meth.sig.returnType = (none : Option FieldType)) (hlk : meth.locks = false) (hC : Cl_ E.2.2.2.2.2 sz) {out : Int × V_} : ∀ (n : Nat) (x0 x1 x2 x3 : Int) (v : V_), (E.2.2.2.2.2 x0 ∧ ty_ x0 = 10 ∧ ln_ x0 = 0) → (E.2.2.2.2.2 x1 ∧ ty_ x1 = 5 ∧ ln_ x1 = 0) → fX10_gather_48 n x0 x1 x2 x3 v = some out → G_ E p l e (rm_ 3 74) s m args below meth c 6 sz (Q_ E below args s sz sz 9 out.1 out.2) 48 [(0, (2, x0)), (1, (2, x1)), (2, (0, x2)), (3, (0, x3))] [] v sz := by
  intro n
  induction n with
  | zero =>
    intro x0 x1 x2 x3 v T0 T1 h
    cases h
  | succ n H_48 =>
    intro x0 x1 x2 x3 v T0 T1 h
    rw [fX10_gather_48] at h
    refine g_iload_n C (f := 3) dX10_gather_48 3 rfl ?_
    refine g_aload_n C (f := 0) dX10_gather_49 0 rfl ?_
    refine g_getf C (k := 1) (kd := 0) okX10 (by decide) kf_RX10_34 dX10_gather_50 (rg_ hC T0.1) T0.2.1 rfl ?_
    refine g_icmp_ge C 117 dX10_gather_53 rfl (fun c7 => ?_) (fun c7 => ?_)
    · replace h := if_t h c7
      cases h
      exact g_vret C dX10_gather_117 hr hlk
    · replace h := if_f h c7
      refine g_aload_n C (f := 0) dX10_gather_56 0 rfl ?_
      have F8 := fX10_0 hC T0.1 T0.2.1
      refine g_getR C (k := 0) (o := 1) okX10 (by decide) kf_RX10_9 dX10_gather_57 hC T0.1 T0.2.1 rfl rfl ?_
      refine g_iload_n C (f := 3) dX10_gather_60 3 rfl ?_
      obtain ⟨c9, h⟩ := ck_e h
      refine g_iald C 4 dX10_gather_61 (rg_ hC F8.1) F8.2.1 F8.2.2 c9 ?_
      obtain ⟨y10, ey10, h⟩ := lt_e h
      refine g_set C ey10 ?_
      refine g_istore C (i := 4) (ls' := [(4, (0, y10)), (0, (2, x0)), (1, (2, x1)), (2, (0, x2)), (3, (0, x3))]) dX10_gather_62 (by decide) rfl ?_
      refine g_iconst C (n := 0) dX10_gather_64 (by decide) ?_
      refine g_istore C (i := 5) (ls' := [(5, (0, 0)), (4, (0, y10)), (0, (2, x0)), (1, (2, x1)), (2, (0, x2)), (3, (0, x3))]) dX10_gather_65 (by decide) rfl ?_
      refine g_sub [2, 3, 4, 5, 1, 0] rfl rfl ?_
      exact tX10_gather_67 C hr hlk hC _ H_48 _ _ _ _ _ _ _ _ T0 T1 h
theorem tX10_gather_27 (C : MC_ E p s m c cX10_gather 6 RX10) (hr : meth.sig.returnType = (none : Option FieldType)) (hlk : meth.locks = false) (hC : Cl_ E.2.2.2.2.2 sz) {out : Int × V_} : ∀ (n : Nat) (x0 x1 x2 x3 : Int) (v : V_), (E.2.2.2.2.2 x0 ∧ ty_ x0 = 10 ∧ ln_ x0 = 0) → (E.2.2.2.2.2 x1 ∧ ty_ x1 = 5 ∧ ln_ x1 = 0) → fX10_gather_27 n x0 x1 x2 x3 v = some out → G_ E p l e (rm_ 3 74) s m args below meth c 6 sz (Q_ E below args s sz sz 9 out.1 out.2) 27 [(0, (2, x0)), (1, (2, x1)), (2, (0, x2)), (3, (0, x3))] [] v sz := by
  intro n
  induction n with
  | zero =>
    intro x0 x1 x2 x3 v T0 T1 h
    cases h
  | succ n H_27 =>
    intro x0 x1 x2 x3 v T0 T1 h
    rw [fX10_gather_27] at h
    refine g_iload_n C (f := 3) dX10_gather_27 3 rfl ?_
    refine g_bipush C (n := 6) dX10_gather_28 (by decide) ?_
    refine g_icmp_ge C 46 dX10_gather_30 rfl (fun c6 => ?_) (fun c6 => ?_)
    · replace h := if_t h c6
      refine g_iconst C (n := 0) dX10_gather_46 (by decide) ?_
      refine g_istore_n C (f := 3) (ls' := [(3, (0, 0)), (0, (2, x0)), (1, (2, x1)), (2, (0, x2))]) dX10_gather_47 (by decide) rfl ?_
      refine g_sub [1, 2, 3, 0] rfl rfl ?_
      exact tX10_gather_48 C hr hlk hC _ _ _ _ _ _ T0 T1 h
    · replace h := if_f h c6
      refine g_aload_n C (f := 0) dX10_gather_33 0 rfl ?_
      have F21 := fX10_14 hC T0.1 T0.2.1
      refine g_getR C (k := 14) (o := 5) okX10 (by decide) kf_RX10_27 dX10_gather_34 hC T0.1 T0.2.1 rfl rfl ?_
      refine g_iload_n C (f := 3) dX10_gather_37 3 rfl ?_
      refine g_iload_n C (f := 3) dX10_gather_38 3 rfl ?_
      obtain ⟨c22, h⟩ := ck_e h
      obtain ⟨v23, ev23, h⟩ := lt_e h
      refine g_iast C 6 dX10_gather_39 (rg_ hC F21.1) F21.2.1 F21.2.2 c22 v23 ev23 ?_
      obtain ⟨y24, ey24, h⟩ := lt_e h
      refine g_iincx C (ls' := [(3, (0, y24)), (0, (2, x0)), (1, (2, x1)), (2, (0, x2))]) ey24 dX10_gather_40 3 rfl (by decide) (by decide) rfl ?_
      refine g_goto C 27 dX10_gather_43 rfl ?_
      refine g_sub [1, 2, 3, 0] rfl rfl ?_
      exact H_27 _ _ _ _ _ T0 T1 h
end
theorem cX10_gather_ok (l : Launch) {E : En_} {sz : Int} (hC : Cl_ E.2.2.2.2.2 sz) {x0 x1 x2 : Int} {v : V_} {out : Int × V_} (T0 : (E.2.2.2.2.2 x0 ∧ ty_ x0 = 10 ∧ ln_ x0 = 0)) (T1 : (E.2.2.2.2.2 x1 ∧ ty_ x1 = 5 ∧ ln_ x1 = 0)) (h : fX10_gather x0 x1 x2 v = some out) : Met l yX10_gather [.code yX10_gather cX10_gather 6 (none : Option FieldType)] (rm_ 3 74) (Pc_ E sz v [(2, x0), (2, x1), (0, x2)]) (Qc_ E sz 9 out.1 out.2) 0 0 (fun q => E.1 < q) := by
  refine met_G0 RX10 (by decide +kernel) rfl (Nat.le_of_ble_eq_true rfl) ?_
  intro p e s m args below meth c C hr hlk
  rw [fX10_gather] at h
  refine g_aload_n C (f := 0) dX10_gather_0 0 rfl ?_
  refine g_iconst C (n := 0) dX10_gather_1 (by decide) ?_
  obtain ⟨v1, ev1, h⟩ := lt_e h
  refine g_putf C (k := 3) (kd := 0) okX10 (by decide) kf_RX10_38 dX10_gather_2 (rg_ hC T0.1) T0.2.1 rfl rfl nvI (Or.inl rfl) v1 ev1 ?_
  refine g_aload_n C (f := 0) dX10_gather_5 0 rfl ?_
  refine g_iconst C (n := 0) dX10_gather_6 (by decide) ?_
  obtain ⟨v2, ev2, h⟩ := lt_e h
  refine g_putf C (k := 4) (kd := 0) okX10 (by decide) kf_RX10_41 dX10_gather_7 (rg_ hC T0.1) T0.2.1 rfl rfl nvI (Or.inl rfl) v2 ev2 ?_
  refine g_aload_n C (f := 0) dX10_gather_10 0 rfl ?_
  refine g_iconst C (n := 0) dX10_gather_11 (by decide) ?_
  obtain ⟨v3, ev3, h⟩ := lt_e h
  refine g_putf C (k := 5) (kd := 0) okX10 (by decide) kf_RX10_44 dX10_gather_12 (rg_ hC T0.1) T0.2.1 rfl rfl nvI (Or.inl rfl) v3 ev3 ?_
  refine g_aload_n C (f := 0) dX10_gather_15 0 rfl ?_
  refine g_iconst C (n := (-1)) dX10_gather_16 (by decide) ?_
  obtain ⟨v4, ev4, h⟩ := lt_e h
  refine g_putf C (k := 16) (kd := 0) okX10 (by decide) kf_RX10_47 dX10_gather_17 (rg_ hC T0.1) T0.2.1 rfl rfl nvI (Or.inl rfl) v4 ev4 ?_
  refine g_aload_n C (f := 0) dX10_gather_20 0 rfl ?_
  refine g_iconst C (n := 0) dX10_gather_21 (by decide) ?_
  obtain ⟨v5, ev5, h⟩ := lt_e h
  refine g_putf C (k := 17) (kd := 0) okX10 (by decide) kf_RX10_50 dX10_gather_22 (rg_ hC T0.1) T0.2.1 rfl rfl nvI (Or.inl rfl) v5 ev5 ?_
  refine g_iconst C (n := 0) dX10_gather_25 (by decide) ?_
  refine g_istore_n C (f := 3) (ls' := [(3, (0, 0)), (0, (2, x0)), (1, (2, x1)), (2, (0, x2))]) dX10_gather_26 (by decide) rfl ?_
  refine g_sub [1, 2, 3, 0] rfl rfl ?_
  exact tX10_gather_27 C hr hlk hC _ _ _ _ _ _ T0 T1 h
theorem dX10_laterAhead_0 : decode cX10_laterAhead 0 = .ok (.iconst 0, 1) := by decide +kernel
theorem dX10_laterAhead_1 : decode cX10_laterAhead 1 = .ok (.istore_n 2, 1) := by decide +kernel
theorem dX10_laterAhead_2 : decode cX10_laterAhead 2 = .ok (.iconst 0, 1) := by decide +kernel
theorem dX10_laterAhead_3 : decode cX10_laterAhead 3 = .ok (.istore_n 3, 1) := by decide +kernel
theorem dX10_laterAhead_4 : decode cX10_laterAhead 4 = .ok (.iload_n 3, 1) := by decide +kernel
theorem dX10_laterAhead_5 : decode cX10_laterAhead 5 = .ok (.iload_n 1, 1) := by decide +kernel
theorem dX10_laterAhead_6 : decode cX10_laterAhead 6 = .ok (.if_icmp .ge 38, 3) := by decide +kernel
theorem dX10_laterAhead_9 : decode cX10_laterAhead 9 = .ok (.iload_n 2, 1) := by decide +kernel
theorem dX10_laterAhead_10 : decode cX10_laterAhead 10 = .ok (.aload_n 0, 1) := by decide +kernel
theorem dX10_laterAhead_11 : decode cX10_laterAhead 11 = .ok (.getfield 17, 3) := by decide +kernel
theorem dX10_laterAhead_14 : decode cX10_laterAhead 14 = .ok (.iload_n 3, 1) := by decide +kernel
theorem dX10_laterAhead_15 : decode cX10_laterAhead 15 = .ok (.aaload, 1) := by decide +kernel
theorem dX10_laterAhead_16 : decode cX10_laterAhead 16 = .ok (.getfield 192, 3) := by decide +kernel
theorem dX10_laterAhead_19 : decode cX10_laterAhead 19 = .ok (.aload_n 0, 1) := by decide +kernel
theorem dX10_laterAhead_20 : decode cX10_laterAhead 20 = .ok (.getfield 17, 3) := by decide +kernel
theorem dX10_laterAhead_23 : decode cX10_laterAhead 23 = .ok (.iload_n 1, 1) := by decide +kernel
theorem dX10_laterAhead_24 : decode cX10_laterAhead 24 = .ok (.aaload, 1) := by decide +kernel
theorem dX10_laterAhead_25 : decode cX10_laterAhead 25 = .ok (.getfield 192, 3) := by decide +kernel
theorem dX10_laterAhead_28 : decode cX10_laterAhead 28 = .ok (.if_icmp .le 7, 3) := by decide +kernel
theorem dX10_laterAhead_31 : decode cX10_laterAhead 31 = .ok (.iconst 1, 1) := by decide +kernel
theorem dX10_laterAhead_32 : decode cX10_laterAhead 32 = .ok (.goto 4, 3) := by decide +kernel
theorem dX10_laterAhead_35 : decode cX10_laterAhead 35 = .ok (.iconst 0, 1) := by decide +kernel
theorem dX10_laterAhead_36 : decode cX10_laterAhead 36 = .ok (.iadd, 1) := by decide +kernel
theorem dX10_laterAhead_37 : decode cX10_laterAhead 37 = .ok (.istore_n 2, 1) := by decide +kernel
theorem dX10_laterAhead_38 : decode cX10_laterAhead 38 = .ok (.iinc 3 1, 3) := by decide +kernel
theorem dX10_laterAhead_41 : decode cX10_laterAhead 41 = .ok (.goto (-37), 3) := by decide +kernel
theorem dX10_laterAhead_44 : decode cX10_laterAhead 44 = .ok (.iload_n 2, 1) := by decide +kernel
theorem dX10_laterAhead_45 : decode cX10_laterAhead 45 = .ok (.ireturn, 1) := by decide +kernel
def fX10_laterAhead_36 (k4 : Int → Int → Int → Int → V_ → Option (Int × V_)) (x0 x1 x3 s0 s1 : Int) (v : V_) : Option (Int × V_) :=
  lt_ (wr_ (s0 + s1)) fun y9 =>
  lt_ (wr_ (x3 + 1)) fun y10 =>
  k4 x0 x1 y9 y10 v
def fX10_laterAhead_4 : Nat → Int → Int → Int → Int → V_ → Option (Int × V_)
  | 0, _, _, _, _, _ => none
  | n + 1, x0, x1, x2, x3, v =>
    if x1 ≤ x3 then (
      some (x2, v))
    else (
      ck_ (0 ≤ x3 ∧ x3 < 34) (
      ck_ (0 ≤ x1 ∧ x1 < 34) (
      if (v ((x0 + 2) + (5 + 2 * x3)) 7) ≤ (v ((x0 + 2) + (5 + 2 * x1)) 7) then (
        fX10_laterAhead_36 (fX10_laterAhead_4 n) x0 x1 x3 x2 0 v)
      else (
        fX10_laterAhead_36 (fX10_laterAhead_4 n) x0 x1 x3 x2 1 v))))
def fX10_laterAhead (x0 x1 : Int) (v : V_) : Option (Int × V_) :=
  fX10_laterAhead_4 fu_ x0 x1 0 0 v
section
variable {E : En_} {p : Program} {l : Launch} {e : Env} {s : State} {m : MethodId} {args : Array Value} {below : List Frame} {meth : Method} {c : Code} {sz : Int}
theorem tX10_laterAhead_36 (C : MC_ E p s m c cX10_laterAhead 4 RX10) (hr : meth.sig.returnType = (some FieldType.int)) (hlk : meth.locks = false) (hC : Cl_ E.2.2.2.2.2 sz) {out : Int × V_} (k4 : Int → Int → Int → Int → V_ → Option (Int × V_)) (H_4 : ∀ (x0 x1 x2 x3 : Int) (v : V_), (E.2.2.2.2.2 x0 ∧ ty_ x0 = 10 ∧ ln_ x0 = 0) → k4 x0 x1 x2 x3 v = some out → G_ E p l e (rm_ 0 0) s m args below meth c 4 sz (Q_ E below args s sz sz 0 out.1 out.2) 4 [(0, (2, x0)), (1, (0, x1)), (2, (0, x2)), (3, (0, x3))] [] v sz) (x0 x1 x3 s0 s1 : Int) (v : V_) (T0 : (E.2.2.2.2.2 x0 ∧ ty_ x0 = 10 ∧ ln_ x0 = 0)) (h : fX10_laterAhead_36 k4 x0 x1 x3 s0 s1 v = some out) : G_ E p l e (rm_ 0 0) s m args below meth c 4 sz (Q_ E below args s sz sz 0 out.1 out.2) 36 [(0, (2, x0)), (1, (0, x1)), (3, (0, x3))] [(0, s1), (0, s0)] v sz := by
  rw [fX10_laterAhead_36] at h
  refine g_iadd C dX10_laterAhead_36 ?_
  obtain ⟨y9, ey9, h⟩ := lt_e h
  refine g_set C ey9 ?_
  refine g_istore_n C (f := 2) (ls' := [(2, (0, y9)), (0, (2, x0)), (1, (0, x1)), (3, (0, x3))]) dX10_laterAhead_37 (by decide) rfl ?_
  obtain ⟨y10, ey10, h⟩ := lt_e h
  refine g_iincx C (ls' := [(3, (0, y10)), (2, (0, y9)), (0, (2, x0)), (1, (0, x1))]) ey10 dX10_laterAhead_38 3 rfl (by decide) (by decide) rfl ?_
  refine g_goto C 4 dX10_laterAhead_41 rfl ?_
  refine g_sub [2, 3, 1, 0] rfl rfl ?_
  exact H_4 _ _ _ _ _ T0 h
theorem tX10_laterAhead_4 (C : MC_ E p s m c cX10_laterAhead 4 RX10) (hr : meth.sig.returnType = (some FieldType.int)) (hlk : meth.locks = false) (hC : Cl_ E.2.2.2.2.2 sz) {out : Int × V_} : ∀ (n : Nat) (x0 x1 x2 x3 : Int) (v : V_), (E.2.2.2.2.2 x0 ∧ ty_ x0 = 10 ∧ ln_ x0 = 0) → fX10_laterAhead_4 n x0 x1 x2 x3 v = some out → G_ E p l e (rm_ 0 0) s m args below meth c 4 sz (Q_ E below args s sz sz 0 out.1 out.2) 4 [(0, (2, x0)), (1, (0, x1)), (2, (0, x2)), (3, (0, x3))] [] v sz := by
  intro n
  induction n with
  | zero =>
    intro x0 x1 x2 x3 v T0 h
    cases h
  | succ n H_4 =>
    intro x0 x1 x2 x3 v T0 h
    rw [fX10_laterAhead_4] at h
    refine g_iload_n C (f := 3) dX10_laterAhead_4 3 rfl ?_
    refine g_iload_n C (f := 1) dX10_laterAhead_5 1 rfl ?_
    refine g_icmp_ge C 44 dX10_laterAhead_6 rfl (fun c1 => ?_) (fun c1 => ?_)
    · replace h := if_t h c1
      refine g_iload_n C (f := 2) dX10_laterAhead_44 2 rfl ?_
      cases h
      exact g_iret C dX10_laterAhead_45 hr hlk
    · replace h := if_f h c1
      refine g_iload_n C (f := 2) dX10_laterAhead_9 2 rfl ?_
      refine g_aload_n C (f := 0) dX10_laterAhead_10 0 rfl ?_
      have F2 := fX10_2 hC T0.1 T0.2.1
      refine g_getR C (k := 2) (o := 2) okX10 (by decide) kf_RX10_17 dX10_laterAhead_11 hC T0.1 T0.2.1 rfl rfl ?_
      refine g_iload_n C (f := 3) dX10_laterAhead_14 3 rfl ?_
      obtain ⟨c3, h⟩ := ck_e h
      have F4 := fE_items (i := x3) hC F2.1 F2.2.1 F2.2.2 c3
      refine g_aald C 26 34 5 2 dX10_laterAhead_15 hC F2.1 F2.2.1 F2.2.2 c3 (by decide) oA_items ?_
      refine g_getf C (k := 7) (kd := 0) okX1 (by decide) kf_RX10_192 dX10_laterAhead_16 (rg_ hC F4.1) F4.2.1 rfl ?_
      refine g_aload_n C (f := 0) dX10_laterAhead_19 0 rfl ?_
      have F5 := fX10_2 hC T0.1 T0.2.1
      refine g_getR C (k := 2) (o := 2) okX10 (by decide) kf_RX10_17 dX10_laterAhead_20 hC T0.1 T0.2.1 rfl rfl ?_
      refine g_iload_n C (f := 1) dX10_laterAhead_23 1 rfl ?_
      obtain ⟨c6, h⟩ := ck_e h
      have F7 := fE_items (i := x1) hC F5.1 F5.2.1 F5.2.2 c6
      refine g_aald C 26 34 5 2 dX10_laterAhead_24 hC F5.1 F5.2.1 F5.2.2 c6 (by decide) oA_items ?_
      refine g_getf C (k := 7) (kd := 0) okX1 (by decide) kf_RX10_192 dX10_laterAhead_25 (rg_ hC F7.1) F7.2.1 rfl ?_
      refine g_icmp_le C 35 dX10_laterAhead_28 rfl (fun c8 => ?_) (fun c8 => ?_)
      · replace h := if_t h c8
        refine g_iconst C (n := 0) dX10_laterAhead_35 (by decide) ?_
        refine g_sub [0, 1, 3] rfl rfl ?_
        exact tX10_laterAhead_36 C hr hlk hC _ H_4 _ _ _ _ _ _ T0 h
      · replace h := if_f h c8
        refine g_iconst C (n := 1) dX10_laterAhead_31 (by decide) ?_
        refine g_goto C 36 dX10_laterAhead_32 rfl ?_
        refine g_sub [0, 1, 3] rfl rfl ?_
        exact tX10_laterAhead_36 C hr hlk hC _ H_4 _ _ _ _ _ _ T0 h
end
theorem cX10_laterAhead_ok (l : Launch) {E : En_} {sz : Int} (hC : Cl_ E.2.2.2.2.2 sz) {x0 x1 : Int} {v : V_} {out : Int × V_} (T0 : (E.2.2.2.2.2 x0 ∧ ty_ x0 = 10 ∧ ln_ x0 = 0)) (h : fX10_laterAhead x0 x1 v = some out) : Met l yX10_laterAhead [.code yX10_laterAhead cX10_laterAhead 4 (some FieldType.int)] (rm_ 0 0) (Pc_ E sz v [(2, x0), (0, x1)]) (Qc_ E sz 0 out.1 out.2) 0 0 (fun q => E.1 < q) := by
  refine met_G0 RX10 (by decide +kernel) rfl (Nat.le_of_ble_eq_true rfl) ?_
  intro p e s m args below meth c C hr hlk
  rw [fX10_laterAhead] at h
  refine g_iconst C (n := 0) dX10_laterAhead_0 (by decide) ?_
  refine g_istore_n C (f := 2) (ls' := [(2, (0, 0)), (0, (2, x0)), (1, (0, x1))]) dX10_laterAhead_1 (by decide) rfl ?_
  refine g_iconst C (n := 0) dX10_laterAhead_2 (by decide) ?_
  refine g_istore_n C (f := 3) (ls' := [(3, (0, 0)), (2, (0, 0)), (0, (2, x0)), (1, (0, x1))]) dX10_laterAhead_3 (by decide) rfl ?_
  refine g_sub [2, 3, 1, 0] rfl rfl ?_
  exact tX10_laterAhead_4 C hr hlk hC _ _ _ _ _ _ T0 h
theorem dX10_layAs_0 : decode cX10_layAs 0 = .ok (.iconst 0, 1) := by decide +kernel
theorem dX10_layAs_1 : decode cX10_layAs 1 = .ok (.istore_n 2, 1) := by decide +kernel
theorem dX10_layAs_2 : decode cX10_layAs 2 = .ok (.iload_n 2, 1) := by decide +kernel
theorem dX10_layAs_3 : decode cX10_layAs 3 = .ok (.aload_n 0, 1) := by decide +kernel
theorem dX10_layAs_4 : decode cX10_layAs 4 = .ok (.getfield 38, 3) := by decide +kernel
theorem dX10_layAs_7 : decode cX10_layAs 7 = .ok (.if_icmp .ge 36, 3) := by decide +kernel
theorem dX10_layAs_10 : decode cX10_layAs 10 = .ok (.aload_n 0, 1) := by decide +kernel
theorem dX10_layAs_11 : decode cX10_layAs 11 = .ok (.getfield 17, 3) := by decide +kernel
theorem dX10_layAs_14 : decode cX10_layAs 14 = .ok (.iload_n 2, 1) := by decide +kernel
theorem dX10_layAs_15 : decode cX10_layAs 15 = .ok (.aaload, 1) := by decide +kernel
theorem dX10_layAs_16 : decode cX10_layAs 16 = .ok (.aload_n 1, 1) := by decide +kernel
theorem dX10_layAs_17 : decode cX10_layAs 17 = .ok (.getfield 187, 3) := by decide +kernel
theorem dX10_layAs_20 : decode cX10_layAs 20 = .ok (.iload_n 2, 1) := by decide +kernel
theorem dX10_layAs_21 : decode cX10_layAs 21 = .ok (.iaload, 1) := by decide +kernel
theorem dX10_layAs_22 : decode cX10_layAs 22 = .ok (.putfield 192, 3) := by decide +kernel
theorem dX10_layAs_25 : decode cX10_layAs 25 = .ok (.aload_n 0, 1) := by decide +kernel
theorem dX10_layAs_26 : decode cX10_layAs 26 = .ok (.getfield 21, 3) := by decide +kernel
theorem dX10_layAs_29 : decode cX10_layAs 29 = .ok (.iload_n 2, 1) := by decide +kernel
theorem dX10_layAs_30 : decode cX10_layAs 30 = .ok (.aload_n 1, 1) := by decide +kernel
theorem dX10_layAs_31 : decode cX10_layAs 31 = .ok (.getfield 195, 3) := by decide +kernel
theorem dX10_layAs_34 : decode cX10_layAs 34 = .ok (.iload_n 2, 1) := by decide +kernel
theorem dX10_layAs_35 : decode cX10_layAs 35 = .ok (.iaload, 1) := by decide +kernel
theorem dX10_layAs_36 : decode cX10_layAs 36 = .ok (.iastore, 1) := by decide +kernel
theorem dX10_layAs_37 : decode cX10_layAs 37 = .ok (.iinc 2 1, 3) := by decide +kernel
theorem dX10_layAs_40 : decode cX10_layAs 40 = .ok (.goto (-38), 3) := by decide +kernel
theorem dX10_layAs_43 : decode cX10_layAs 43 = .ok (.aload_n 0, 1) := by decide +kernel
theorem dX10_layAs_44 : decode cX10_layAs 44 = .ok (.aload_n 0, 1) := by decide +kernel
theorem dX10_layAs_45 : decode cX10_layAs 45 = .ok (.getfield 38, 3) := by decide +kernel
theorem dX10_layAs_48 : decode cX10_layAs 48 = .ok (.ifCond .le 22, 3) := by decide +kernel
theorem dX10_layAs_51 : decode cX10_layAs 51 = .ok (.aload_n 0, 1) := by decide +kernel
theorem dX10_layAs_52 : decode cX10_layAs 52 = .ok (.getfield 17, 3) := by decide +kernel
theorem dX10_layAs_55 : decode cX10_layAs 55 = .ok (.aload_n 0, 1) := by decide +kernel
theorem dX10_layAs_56 : decode cX10_layAs 56 = .ok (.getfield 38, 3) := by decide +kernel
theorem dX10_layAs_59 : decode cX10_layAs 59 = .ok (.iconst 1, 1) := by decide +kernel
theorem dX10_layAs_60 : decode cX10_layAs 60 = .ok (.isub, 1) := by decide +kernel
theorem dX10_layAs_61 : decode cX10_layAs 61 = .ok (.aaload, 1) := by decide +kernel
theorem dX10_layAs_62 : decode cX10_layAs 62 = .ok (.getfield 192, 3) := by decide +kernel
theorem dX10_layAs_65 : decode cX10_layAs 65 = .ok (.iconst 1, 1) := by decide +kernel
theorem dX10_layAs_66 : decode cX10_layAs 66 = .ok (.iadd, 1) := by decide +kernel
theorem dX10_layAs_67 : decode cX10_layAs 67 = .ok (.goto 4, 3) := by decide +kernel
theorem dX10_layAs_70 : decode cX10_layAs 70 = .ok (.iconst 0, 1) := by decide +kernel
theorem dX10_layAs_71 : decode cX10_layAs 71 = .ok (.putfield 196, 3) := by decide +kernel
theorem dX10_layAs_74 : decode cX10_layAs 74 = .ok (.aload_n 0, 1) := by decide +kernel
theorem dX10_layAs_75 : decode cX10_layAs 75 = .ok (.iconst 0, 1) := by decide +kernel
theorem dX10_layAs_76 : decode cX10_layAs 76 = .ok (.putfield 199, 3) := by decide +kernel
theorem dX10_layAs_79 : decode cX10_layAs 79 = .ok (.aload_n 0, 1) := by decide +kernel
theorem dX10_layAs_80 : decode cX10_layAs 80 = .ok (.iconst 0, 1) := by decide +kernel
theorem dX10_layAs_81 : decode cX10_layAs 81 = .ok (.putfield 202, 3) := by decide +kernel
theorem dX10_layAs_84 : decode cX10_layAs 84 = .ok (.iconst 0, 1) := by decide +kernel
theorem dX10_layAs_85 : decode cX10_layAs 85 = .ok (.istore_n 2, 1) := by decide +kernel
theorem dX10_layAs_86 : decode cX10_layAs 86 = .ok (.iload_n 2, 1) := by decide +kernel
theorem dX10_layAs_87 : decode cX10_layAs 87 = .ok (.aload_n 0, 1) := by decide +kernel
theorem dX10_layAs_88 : decode cX10_layAs 88 = .ok (.getfield 38, 3) := by decide +kernel
theorem dX10_layAs_91 : decode cX10_layAs 91 = .ok (.if_icmp .ge 112, 3) := by decide +kernel
theorem dX10_layAs_94 : decode cX10_layAs 94 = .ok (.aload_n 0, 1) := by decide +kernel
theorem dX10_layAs_95 : decode cX10_layAs 95 = .ok (.getfield 17, 3) := by decide +kernel
theorem dX10_layAs_98 : decode cX10_layAs 98 = .ok (.iload_n 2, 1) := by decide +kernel
theorem dX10_layAs_99 : decode cX10_layAs 99 = .ok (.aaload, 1) := by decide +kernel
theorem dX10_layAs_100 : decode cX10_layAs 100 = .ok (.astore_n 3, 1) := by decide +kernel
theorem dX10_layAs_101 : decode cX10_layAs 101 = .ok (.aload_n 3, 1) := by decide +kernel
theorem dX10_layAs_102 : decode cX10_layAs 102 = .ok (.aload_n 3, 1) := by decide +kernel
theorem dX10_layAs_103 : decode cX10_layAs 103 = .ok (.getfield 141, 3) := by decide +kernel
theorem dX10_layAs_106 : decode cX10_layAs 106 = .ok (.ifCond .ne 33, 3) := by decide +kernel
theorem dX10_layAs_109 : decode cX10_layAs 109 = .ok (.aload_n 3, 1) := by decide +kernel
theorem dX10_layAs_110 : decode cX10_layAs 110 = .ok (.getfield 205, 3) := by decide +kernel
theorem dX10_layAs_113 : decode cX10_layAs 113 = .ok (.ifCond .lt 26, 3) := by decide +kernel
theorem dX10_layAs_116 : decode cX10_layAs 116 = .ok (.aload_n 3, 1) := by decide +kernel
theorem dX10_layAs_117 : decode cX10_layAs 117 = .ok (.getfield 192, 3) := by decide +kernel
theorem dX10_layAs_120 : decode cX10_layAs 120 = .ok (.aload_n 0, 1) := by decide +kernel
theorem dX10_layAs_121 : decode cX10_layAs 121 = .ok (.getfield 17, 3) := by decide +kernel
theorem dX10_layAs_124 : decode cX10_layAs 124 = .ok (.aload_n 3, 1) := by decide +kernel
theorem dX10_layAs_125 : decode cX10_layAs 125 = .ok (.getfield 205, 3) := by decide +kernel
theorem dX10_layAs_128 : decode cX10_layAs 128 = .ok (.aaload, 1) := by decide +kernel
theorem dX10_layAs_129 : decode cX10_layAs 129 = .ok (.getfield 192, 3) := by decide +kernel
theorem dX10_layAs_132 : decode cX10_layAs 132 = .ok (.if_icmp .gt 7, 3) := by decide +kernel
theorem dX10_layAs_135 : decode cX10_layAs 135 = .ok (.iconst 1, 1) := by decide +kernel
theorem dX10_layAs_136 : decode cX10_layAs 136 = .ok (.goto 4, 3) := by decide +kernel
theorem dX10_layAs_139 : decode cX10_layAs 139 = .ok (.iconst 0, 1) := by decide +kernel
theorem dX10_layAs_140 : decode cX10_layAs 140 = .ok (.putfield 208, 3) := by decide +kernel
theorem dX10_layAs_143 : decode cX10_layAs 143 = .ok (.aload_n 0, 1) := by decide +kernel
theorem dX10_layAs_144 : decode cX10_layAs 144 = .ok (.dup, 1) := by decide +kernel
theorem dX10_layAs_145 : decode cX10_layAs 145 = .ok (.getfield 199, 3) := by decide +kernel
theorem dX10_layAs_148 : decode cX10_layAs 148 = .ok (.aload_n 3, 1) := by decide +kernel
theorem dX10_layAs_149 : decode cX10_layAs 149 = .ok (.getfield 208, 3) := by decide +kernel
theorem dX10_layAs_152 : decode cX10_layAs 152 = .ok (.ifCond .eq 7, 3) := by decide +kernel
theorem dX10_layAs_155 : decode cX10_layAs 155 = .ok (.iconst 1, 1) := by decide +kernel
theorem dX10_layAs_156 : decode cX10_layAs 156 = .ok (.goto 4, 3) := by decide +kernel
theorem dX10_layAs_159 : decode cX10_layAs 159 = .ok (.iconst 0, 1) := by decide +kernel
theorem dX10_layAs_160 : decode cX10_layAs 160 = .ok (.iadd, 1) := by decide +kernel
theorem dX10_layAs_161 : decode cX10_layAs 161 = .ok (.putfield 199, 3) := by decide +kernel
theorem dX10_layAs_164 : decode cX10_layAs 164 = .ok (.aload_n 3, 1) := by decide +kernel
theorem dX10_layAs_165 : decode cX10_layAs 165 = .ok (.aload_n 3, 1) := by decide +kernel
theorem dX10_layAs_166 : decode cX10_layAs 166 = .ok (.invokevirtual 162, 3) := by decide +kernel
theorem dX10_layAs_169 : decode cX10_layAs 169 = .ok (.ifCond .eq 11, 3) := by decide +kernel
theorem dX10_layAs_172 : decode cX10_layAs 172 = .ok (.aload_n 0, 1) := by decide +kernel
theorem dX10_layAs_173 : decode cX10_layAs 173 = .ok (.iload_n 2, 1) := by decide +kernel
theorem dX10_layAs_174 : decode cX10_layAs 174 = .ok (.invokevirtual 212, 3) := by decide +kernel
theorem dX10_layAs_177 : decode cX10_layAs 177 = .ok (.goto 4, 3) := by decide +kernel
theorem dX10_layAs_180 : decode cX10_layAs 180 = .ok (.iconst 0, 1) := by decide +kernel
theorem dX10_layAs_181 : decode cX10_layAs 181 = .ok (.putfield 215, 3) := by decide +kernel
theorem dX10_layAs_184 : decode cX10_layAs 184 = .ok (.aload_n 0, 1) := by decide +kernel
theorem dX10_layAs_185 : decode cX10_layAs 185 = .ok (.dup, 1) := by decide +kernel
theorem dX10_layAs_186 : decode cX10_layAs 186 = .ok (.getfield 202, 3) := by decide +kernel
theorem dX10_layAs_189 : decode cX10_layAs 189 = .ok (.aload_n 3, 1) := by decide +kernel
theorem dX10_layAs_190 : decode cX10_layAs 190 = .ok (.getfield 215, 3) := by decide +kernel
theorem dX10_layAs_193 : decode cX10_layAs 193 = .ok (.iadd, 1) := by decide +kernel
theorem dX10_layAs_194 : decode cX10_layAs 194 = .ok (.putfield 202, 3) := by decide +kernel
theorem dX10_layAs_197 : decode cX10_layAs 197 = .ok (.iinc 2 1, 3) := by decide +kernel
theorem dX10_layAs_200 : decode cX10_layAs 200 = .ok (.goto (-114), 3) := by decide +kernel
theorem dX10_layAs_203 : decode cX10_layAs 203 = .ok (.return_, 1) := by decide +kernel
def fX10_layAs_181 (k86 : Int → Int → V_ → Option (Int × V_)) (x0 x2 x3 s0 s1 : Int) (v : V_) : Option (Int × V_) :=
  lt_ (up_ v s0 9 s1) fun v19 =>
  lt_ (up_ v19 x0 11 (wr_ ((v19 x0 11) + (v19 x3 9)))) fun v20 =>
  lt_ (wr_ (x2 + 1)) fun y21 =>
  k86 x0 y21 v20
def fX10_layAs_160 (k86 : Int → Int → V_ → Option (Int × V_)) (x0 x2 x3 s0 s1 s2 : Int) (v : V_) : Option (Int × V_) :=
  lt_ (up_ v s0 10 (wr_ (s1 + s2))) fun v16 =>
  bd_ (fX1_isSplit x3 v16) fun q17 =>
  if q17.1 = 0 then (
    fX10_layAs_181 k86 x0 x2 x3 x3 0 q17.2)
  else (
    bd_ (fX10_laterAhead x0 x2 q17.2) fun q22 =>
    fX10_layAs_181 k86 x0 x2 x3 x3 q22.1 q22.2)
def fX10_layAs_140 (k86 : Int → Int → V_ → Option (Int × V_)) (x0 x2 x3 s0 s1 : Int) (v : V_) : Option (Int × V_) :=
  ck_ (s1 = 0 ∨ s1 = 1) (
  lt_ (up_ v s0 10 s1) fun v14 =>
  if (v14 x3 10) = 0 then (
    fX10_layAs_160 k86 x0 x2 x3 x0 (v14 x0 10) 0 v14)
  else (
    fX10_layAs_160 k86 x0 x2 x3 x0 (v14 x0 10) 1 v14))
def fX10_layAs_139 (k86 : Int → Int → V_ → Option (Int × V_)) (x0 x2 x3 s0 : Int) (v : V_) : Option (Int × V_) :=
  fX10_layAs_140 k86 x0 x2 x3 s0 0 v
def fX10_layAs_86 : Nat → Int → Int → V_ → Option (Int × V_)
  | 0, _, _, _ => none
  | n + 1, x0, x2, v =>
    if (v x0 3) ≤ x2 then (
      some (0, v))
    else (
      ck_ (0 ≤ x2 ∧ x2 < 34) (
      lt_ ((x0 + 2) + (5 + 2 * x2)) fun y10 =>
      if (v y10 1) = 0 then (
        if (v y10 6) < 0 then (
          fX10_layAs_139 (fX10_layAs_86 n) x0 x2 y10 y10 v)
        else (
          ck_ (0 ≤ v y10 6 ∧ v y10 6 < 34) (
          if (v ((x0 + 2) + (5 + 2 * (v y10 6))) 7) < (v y10 7) then (
            fX10_layAs_139 (fX10_layAs_86 n) x0 x2 y10 y10 v)
          else (
            fX10_layAs_140 (fX10_layAs_86 n) x0 x2 y10 y10 1 v))))
      else (
        fX10_layAs_139 (fX10_layAs_86 n) x0 x2 y10 y10 v)))
def fX10_layAs_71 (x0 s0 s1 : Int) (v : V_) : Option (Int × V_) :=
  lt_ (up_ v s0 9 s1) fun v3 =>
  lt_ (up_ v3 x0 10 0) fun v4 =>
  lt_ (up_ v4 x0 11 0) fun v5 =>
  fX10_layAs_86 fu_ x0 0 v5
def fX10_layAs_2 : Nat → Int → Int → Int → V_ → Option (Int × V_)
  | 0, _, _, _, _ => none
  | n + 1, x0, x1, x2, v =>
    if (v x0 3) ≤ x2 then (
      if (v x0 3) ≤ 0 then (
        fX10_layAs_71 x0 x0 0 v)
      else (
        ck_ (0 ≤ wr_ ((v x0 3) - 1) ∧ wr_ ((v x0 3) - 1) < 34) (
        fX10_layAs_71 x0 x0 (wr_ ((v ((x0 + 2) + (5 + 2 * (wr_ ((v x0 3) - 1)))) 7) + 1)) v)))
    else (
      ck_ (0 ≤ x2 ∧ x2 < 34) (
      ck_ (0 ≤ x2 ∧ x2 < 34) (
      lt_ (up_ v ((x0 + 2) + (5 + 2 * x2)) 7 (v (x1 + 1) x2)) fun v36 =>
      ck_ (0 ≤ x2 ∧ x2 < 34) (
      ck_ (0 ≤ x2 ∧ x2 < 34) (
      lt_ (up_ v36 (x0 + 3) x2 (v36 (x1 + 2) x2)) fun v41 =>
      lt_ (wr_ (x2 + 1)) fun y42 =>
      (fX10_layAs_2 n) x0 x1 y42 v41)))))
def fX10_layAs (x0 x1 : Int) (v : V_) : Option (Int × V_) :=
  fX10_layAs_2 fu_ x0 x1 0 v
section
variable {E : En_} {p : Program} {l : Launch} {e : Env} {s : State} {m : MethodId} {args : Array Value} {below : List Frame} {meth : Method} {c : Code} {sz : Int}
theorem tX10_layAs_181 (C : MC_ E p s m c cX10_layAs 4 RX10) (hr : meth.sig.returnType = (none : Option FieldType)) (hlk : meth.locks = false) (hC : Cl_ E.2.2.2.2.2 sz) {out : Int × V_} (k86 : Int → Int → V_ → Option (Int × V_)) (H_86 : ∀ (x0 x2 : Int) (v : V_), (E.2.2.2.2.2 x0 ∧ ty_ x0 = 10 ∧ ln_ x0 = 0) → k86 x0 x2 v = some out → G_ E p l e (rm_ 1 23) s m args below meth c 4 sz (Q_ E below args s sz sz 9 out.1 out.2) 86 [(0, (2, x0)), (2, (0, x2))] [] v sz) (x0 x2 x3 s0 s1 : Int) (v : V_) (T0 : (E.2.2.2.2.2 x0 ∧ ty_ x0 = 10 ∧ ln_ x0 = 0)) (T3 : (E.2.2.2.2.2 x3 ∧ ty_ x3 = 1 ∧ ln_ x3 = 0)) (S0 : (E.2.2.2.2.2 s0 ∧ ty_ s0 = 1 ∧ ln_ s0 = 0)) (h : fX10_layAs_181 k86 x0 x2 x3 s0 s1 v = some out) : G_ E p l e (rm_ 1 23) s m args below meth c 4 sz (Q_ E below args s sz sz 9 out.1 out.2) 181 [(0, (2, x0)), (2, (0, x2)), (3, (2, x3))] [(0, s1), (2, s0)] v sz := by
  rw [fX10_layAs_181] at h
  obtain ⟨v19, ev19, h⟩ := lt_e h
  refine g_putf C (k := 9) (kd := 0) okX1 (by decide) kf_RX10_215 dX10_layAs_181 (rg_ hC S0.1) S0.2.1 rfl rfl nvI (Or.inl rfl) v19 ev19 ?_
  refine g_aload_n C (f := 0) dX10_layAs_184 0 rfl ?_
  refine g_dup C (Nat.ne_of_beq_eq_false rfl) dX10_layAs_185 ?_
  refine g_getf C (k := 11) (kd := 0) okX10 (by decide) kf_RX10_202 dX10_layAs_186 (rg_ hC T0.1) T0.2.1 rfl ?_
  refine g_aload_n C (f := 3) dX10_layAs_189 2 rfl ?_
  refine g_getf C (k := 9) (kd := 0) okX1 (by decide) kf_RX10_215 dX10_layAs_190 (rg_ hC T3.1) T3.2.1 rfl ?_
  refine g_iadd C dX10_layAs_193 ?_
  obtain ⟨v20, ev20, h⟩ := lt_e h
  refine g_putf C (k := 11) (kd := 0) okX10 (by decide) kf_RX10_202 dX10_layAs_194 (rg_ hC T0.1) T0.2.1 rfl rfl nvI (Or.inl rfl) v20 ev20 ?_
  obtain ⟨y21, ey21, h⟩ := lt_e h
  refine g_iincx C (ls' := [(2, (0, y21)), (0, (2, x0)), (3, (2, x3))]) ey21 dX10_layAs_197 1 rfl (by decide) (by decide) rfl ?_
  refine g_goto C 86 dX10_layAs_200 rfl ?_
  refine g_sub [1, 0] rfl rfl ?_
  exact H_86 _ _ _ T0 h
theorem tX10_layAs_160 (C : MC_ E p s m c cX10_layAs 4 RX10) (hr : meth.sig.returnType = (none : Option FieldType)) (hlk : meth.locks = false) (hC : Cl_ E.2.2.2.2.2 sz) {out : Int × V_} (k86 : Int → Int → V_ → Option (Int × V_)) (H_86 : ∀ (x0 x2 : Int) (v : V_), (E.2.2.2.2.2 x0 ∧ ty_ x0 = 10 ∧ ln_ x0 = 0) → k86 x0 x2 v = some out → G_ E p l e (rm_ 1 23) s m args below meth c 4 sz (Q_ E below args s sz sz 9 out.1 out.2) 86 [(0, (2, x0)), (2, (0, x2))] [] v sz) (x0 x2 x3 s0 s1 s2 : Int) (v : V_) (T0 : (E.2.2.2.2.2 x0 ∧ ty_ x0 = 10 ∧ ln_ x0 = 0)) (T3 : (E.2.2.2.2.2 x3 ∧ ty_ x3 = 1 ∧ ln_ x3 = 0)) (S0 : (E.2.2.2.2.2 s0 ∧ ty_ s0 = 10 ∧ ln_ s0 = 0)) (h : fX10_layAs_160 k86 x0 x2 x3 s0 s1 s2 v = some out) : G_ E p l e (rm_ 1 23) s m args below meth c 4 sz (Q_ E below args s sz sz 9 out.1 out.2) 160 [(0, (2, x0)), (2, (0, x2)), (3, (2, x3))] [(0, s2), (0, s1), (2, s0)] v sz := by
  rw [fX10_layAs_160] at h
  refine g_iadd C dX10_layAs_160 ?_
  obtain ⟨v16, ev16, h⟩ := lt_e h
  refine g_putf C (k := 10) (kd := 0) okX10 (by decide) kf_RX10_199 dX10_layAs_161 (rg_ hC S0.1) S0.2.1 rfl rfl nvI (Or.inl rfl) v16 ev16 ?_
  refine g_aload_n C (f := 3) dX10_layAs_164 2 rfl ?_
  refine g_aload_n C (f := 3) dX10_layAs_165 2 rfl ?_
  obtain ⟨q17, eq17, h⟩ := bd_e h
  refine g_cV C [] (cX1_isSplit_ok l hC T3 eq17) okX1 T3.2.1 (rg_ hC T3.1) km_RX10_162 cv_X1_isSplit rfl (by decide) rfl rfl (Nat.le_of_ble_eq_true rfl) dX10_layAs_166 ?_
  refine g_if_eq C 180 dX10_layAs_169 rfl (fun c18 => ?_) (fun c18 => ?_)
  · replace h := if_t h c18
    refine g_iconst C (n := 0) dX10_layAs_180 (by decide) ?_
    refine g_sub [0, 1, 2] rfl rfl ?_
    exact tX10_layAs_181 C hr hlk hC _ H_86 _ _ _ _ _ _ T0 T3 T3 h
  · replace h := if_f h c18
    refine g_aload_n C (f := 0) dX10_layAs_172 0 rfl ?_
    refine g_iload_n C (f := 2) dX10_layAs_173 1 rfl ?_
    obtain ⟨q22, eq22, h⟩ := bd_e h
    refine g_cV C [(0, x2)] (cX10_laterAhead_ok l hC T0 eq22) okX10 T0.2.1 (rg_ hC T0.1) km_RX10_212 cv_X10_laterAhead rfl (by decide) rfl rfl (Nat.le_of_ble_eq_true rfl) dX10_layAs_174 ?_
    refine g_goto C 181 dX10_layAs_177 rfl ?_
    refine g_sub [0, 1, 2] rfl rfl ?_
    exact tX10_layAs_181 C hr hlk hC _ H_86 _ _ _ _ _ _ T0 T3 T3 h
theorem tX10_layAs_140 (C : MC_ E p s m c cX10_layAs 4 RX10) (hr : meth.sig.returnType = (none : Option FieldType)) (hlk : meth.locks = false) (hC : Cl_ E.2.2.2.2.2 sz) {out : Int × V_} (k86 : Int → Int → V_ → Option (Int × V_)) (H_86 : ∀ (x0 x2 : Int) (v : V_), (E.2.2.2.2.2 x0 ∧ ty_ x0 = 10 ∧ ln_ x0 = 0) → k86 x0 x2 v = some out → G_ E p l e (rm_ 1 23) s m args below meth c 4 sz (Q_ E below args s sz sz 9 out.1 out.2) 86 [(0, (2, x0)), (2, (0, x2))] [] v sz) (x0 x2 x3 s0 s1 : Int) (v : V_) (T0 : (E.2.2.2.2.2 x0 ∧ ty_ x0 = 10 ∧ ln_ x0 = 0)) (T3 : (E.2.2.2.2.2 x3 ∧ ty_ x3 = 1 ∧ ln_ x3 = 0)) (S0 : (E.2.2.2.2.2 s0 ∧ ty_ s0 = 1 ∧ ln_ s0 = 0)) (h : fX10_layAs_140 k86 x0 x2 x3 s0 s1 v = some out) : G_ E p l e (rm_ 1 23) s m args below meth c 4 sz (Q_ E below args s sz sz 9 out.1 out.2) 140 [(0, (2, x0)), (2, (0, x2)), (3, (2, x3))] [(0, s1), (2, s0)] v sz := by
  rw [fX10_layAs_140] at h
  obtain ⟨c13, h⟩ := ck_e h
  obtain ⟨v14, ev14, h⟩ := lt_e h
  refine g_putf C (k := 10) (kd := 0) okX1 (by decide) kf_RX10_208 dX10_layAs_140 (rg_ hC S0.1) S0.2.1 rfl rfl (nvZ c13) (Or.inl rfl) v14 ev14 ?_
  refine g_aload_n C (f := 0) dX10_layAs_143 0 rfl ?_
  refine g_dup C (Nat.ne_of_beq_eq_false rfl) dX10_layAs_144 ?_
  refine g_getf C (k := 10) (kd := 0) okX10 (by decide) kf_RX10_199 dX10_layAs_145 (rg_ hC T0.1) T0.2.1 rfl ?_
  refine g_aload_n C (f := 3) dX10_layAs_148 2 rfl ?_
  refine g_getf C (k := 10) (kd := 0) okX1 (by decide) kf_RX10_208 dX10_layAs_149 (rg_ hC T3.1) T3.2.1 rfl ?_
  refine g_if_eq C 159 dX10_layAs_152 rfl (fun c15 => ?_) (fun c15 => ?_)
  · replace h := if_t h c15
    refine g_iconst C (n := 0) dX10_layAs_159 (by decide) ?_
    refine g_sub [0, 1, 2] rfl rfl ?_
    exact tX10_layAs_160 C hr hlk hC _ H_86 _ _ _ _ _ _ _ T0 T3 T0 h
  · replace h := if_f h c15
    refine g_iconst C (n := 1) dX10_layAs_155 (by decide) ?_
    refine g_goto C 160 dX10_layAs_156 rfl ?_
    refine g_sub [0, 1, 2] rfl rfl ?_
    exact tX10_layAs_160 C hr hlk hC _ H_86 _ _ _ _ _ _ _ T0 T3 T0 h
theorem tX10_layAs_139 (C : MC_ E p s m c cX10_layAs 4 RX10) (hr : meth.sig.returnType = (none : Option FieldType)) (hlk : meth.locks = false) (hC : Cl_ E.2.2.2.2.2 sz) {out : Int × V_} (k86 : Int → Int → V_ → Option (Int × V_)) (H_86 : ∀ (x0 x2 : Int) (v : V_), (E.2.2.2.2.2 x0 ∧ ty_ x0 = 10 ∧ ln_ x0 = 0) → k86 x0 x2 v = some out → G_ E p l e (rm_ 1 23) s m args below meth c 4 sz (Q_ E below args s sz sz 9 out.1 out.2) 86 [(0, (2, x0)), (2, (0, x2))] [] v sz) (x0 x2 x3 s0 : Int) (v : V_) (T0 : (E.2.2.2.2.2 x0 ∧ ty_ x0 = 10 ∧ ln_ x0 = 0)) (T3 : (E.2.2.2.2.2 x3 ∧ ty_ x3 = 1 ∧ ln_ x3 = 0)) (S0 : (E.2.2.2.2.2 s0 ∧ ty_ s0 = 1 ∧ ln_ s0 = 0)) (h : fX10_layAs_139 k86 x0 x2 x3 s0 v = some out) : G_ E p l e (rm_ 1 23) s m args below meth c 4 sz (Q_ E below args s sz sz 9 out.1 out.2) 139 [(0, (2, x0)), (2, (0, x2)), (3, (2, x3))] [(2, s0)] v sz := by
  rw [fX10_layAs_139] at h
  refine g_iconst C (n := 0) dX10_layAs_139 (by decide) ?_
  refine g_sub [0, 1, 2] rfl rfl ?_
  exact tX10_layAs_140 C hr hlk hC _ H_86 _ _ _ _ _ _ T0 T3 S0 h
theorem tX10_layAs_86 (C : MC_ E p s m c cX10_layAs 4 RX10) (hr : meth.sig.returnType = (none : Option FieldType)) (hlk : meth.locks = false) (hC : Cl_ E.2.2.2.2.2 sz) {out : Int × V_} : ∀ (n : Nat) (x0 x2 : Int) (v : V_), (E.2.2.2.2.2 x0 ∧ ty_ x0 = 10 ∧ ln_ x0 = 0) → fX10_layAs_86 n x0 x2 v = some out → G_ E p l e (rm_ 1 23) s m args below meth c 4 sz (Q_ E below args s sz sz 9 out.1 out.2) 86 [(0, (2, x0)), (2, (0, x2))] [] v sz := by
  intro n
  induction n with
  | zero =>
    intro x0 x2 v T0 h
    cases h
  | succ n H_86 =>
    intro x0 x2 v T0 h
    rw [fX10_layAs_86] at h
    refine g_iload_n C (f := 2) dX10_layAs_86 1 rfl ?_
    refine g_aload_n C (f := 0) dX10_layAs_87 0 rfl ?_
    refine g_getf C (k := 3) (kd := 0) okX10 (by decide) kf_RX10_38 dX10_layAs_88 (rg_ hC T0.1) T0.2.1 rfl ?_
    refine g_icmp_ge C 203 dX10_layAs_91 rfl (fun c6 => ?_) (fun c6 => ?_)
    · replace h := if_t h c6
      cases h
      exact g_vret C dX10_layAs_203 hr hlk
    · replace h := if_f h c6
      refine g_aload_n C (f := 0) dX10_layAs_94 0 rfl ?_
      have F7 := fX10_2 hC T0.1 T0.2.1
      refine g_getR C (k := 2) (o := 2) okX10 (by decide) kf_RX10_17 dX10_layAs_95 hC T0.1 T0.2.1 rfl rfl ?_
      refine g_iload_n C (f := 2) dX10_layAs_98 1 rfl ?_
      obtain ⟨c8, h⟩ := ck_e h
      have F9 := fE_items (i := x2) hC F7.1 F7.2.1 F7.2.2 c8
      refine g_aald C 26 34 5 2 dX10_layAs_99 hC F7.1 F7.2.1 F7.2.2 c8 (by decide) oA_items ?_
      obtain ⟨y10, ey10, h⟩ := lt_e h
      refine g_set C ey10 ?_
      have F11 : (E.2.2.2.2.2 y10 ∧ ty_ y10 = 1 ∧ ln_ y10 = 0) := by rw [ey10]; exact F9
      refine g_astore_n C (f := 3) (ls' := [(3, (2, y10)), (0, (2, x0)), (2, (0, x2))]) dX10_layAs_100 (by decide) rfl ?_
      refine g_aload_n C (f := 3) dX10_layAs_101 0 rfl ?_
      refine g_aload_n C (f := 3) dX10_layAs_102 0 rfl ?_
      refine g_getf C (k := 1) (kd := 0) okX1 (by decide) kf_RX10_141 dX10_layAs_103 (rg_ hC F11.1) F11.2.1 rfl ?_
      refine g_if_ne C 139 dX10_layAs_106 rfl (fun c12 => ?_) (fun c12 => ?_)
      · replace h := if_f h c12
        refine g_sub [1, 2, 0] rfl rfl ?_
        exact tX10_layAs_139 C hr hlk hC _ H_86 _ _ _ _ _ T0 F11 F11 h
      · replace h := if_t h c12
        refine g_aload_n C (f := 3) dX10_layAs_109 0 rfl ?_
        refine g_getf C (k := 6) (kd := 0) okX1 (by decide) kf_RX10_205 dX10_layAs_110 (rg_ hC F11.1) F11.2.1 rfl ?_
        refine g_if_lt C 139 dX10_layAs_113 rfl (fun c23 => ?_) (fun c23 => ?_)
        · replace h := if_t h c23
          refine g_sub [1, 2, 0] rfl rfl ?_
          exact tX10_layAs_139 C hr hlk hC _ H_86 _ _ _ _ _ T0 F11 F11 h
        · replace h := if_f h c23
          refine g_aload_n C (f := 3) dX10_layAs_116 0 rfl ?_
          refine g_getf C (k := 7) (kd := 0) okX1 (by decide) kf_RX10_192 dX10_layAs_117 (rg_ hC F11.1) F11.2.1 rfl ?_
          refine g_aload_n C (f := 0) dX10_layAs_120 1 rfl ?_
          have F24 := fX10_2 hC T0.1 T0.2.1
          refine g_getR C (k := 2) (o := 2) okX10 (by decide) kf_RX10_17 dX10_layAs_121 hC T0.1 T0.2.1 rfl rfl ?_
          refine g_aload_n C (f := 3) dX10_layAs_124 0 rfl ?_
          refine g_getf C (k := 6) (kd := 0) okX1 (by decide) kf_RX10_205 dX10_layAs_125 (rg_ hC F11.1) F11.2.1 rfl ?_
          obtain ⟨c25, h⟩ := ck_e h
          have F26 := fE_items (i := v y10 6) hC F24.1 F24.2.1 F24.2.2 c25
          refine g_aald C 26 34 5 2 dX10_layAs_128 hC F24.1 F24.2.1 F24.2.2 c25 (by decide) oA_items ?_
          refine g_getf C (k := 7) (kd := 0) okX1 (by decide) kf_RX10_192 dX10_layAs_129 (rg_ hC F26.1) F26.2.1 rfl ?_
          refine g_icmp_gt C 139 dX10_layAs_132 rfl (fun c27 => ?_) (fun c27 => ?_)
          · replace h := if_t h c27
            refine g_sub [1, 2, 0] rfl rfl ?_
            exact tX10_layAs_139 C hr hlk hC _ H_86 _ _ _ _ _ T0 F11 F11 h
          · replace h := if_f h c27
            refine g_iconst C (n := 1) dX10_layAs_135 (by decide) ?_
            refine g_goto C 140 dX10_layAs_136 rfl ?_
            refine g_sub [1, 2, 0] rfl rfl ?_
            exact tX10_layAs_140 C hr hlk hC _ H_86 _ _ _ _ _ _ T0 F11 F11 h
theorem tX10_layAs_71 (C : MC_ E p s m c cX10_layAs 4 RX10) (hr : meth.sig.returnType = (none : Option FieldType)) (hlk : meth.locks = false) (hC : Cl_ E.2.2.2.2.2 sz) {out : Int × V_} (x0 s0 s1 : Int) (v : V_) (T0 : (E.2.2.2.2.2 x0 ∧ ty_ x0 = 10 ∧ ln_ x0 = 0)) (S0 : (E.2.2.2.2.2 s0 ∧ ty_ s0 = 10 ∧ ln_ s0 = 0)) (h : fX10_layAs_71 x0 s0 s1 v = some out) : G_ E p l e (rm_ 1 23) s m args below meth c 4 sz (Q_ E below args s sz sz 9 out.1 out.2) 71 [(0, (2, x0))] [(0, s1), (2, s0)] v sz := by
  rw [fX10_layAs_71] at h
  obtain ⟨v3, ev3, h⟩ := lt_e h
  refine g_putf C (k := 9) (kd := 0) okX10 (by decide) kf_RX10_196 dX10_layAs_71 (rg_ hC S0.1) S0.2.1 rfl rfl nvI (Or.inl rfl) v3 ev3 ?_
  refine g_aload_n C (f := 0) dX10_layAs_74 0 rfl ?_
  refine g_iconst C (n := 0) dX10_layAs_75 (by decide) ?_
  obtain ⟨v4, ev4, h⟩ := lt_e h
  refine g_putf C (k := 10) (kd := 0) okX10 (by decide) kf_RX10_199 dX10_layAs_76 (rg_ hC T0.1) T0.2.1 rfl rfl nvI (Or.inl rfl) v4 ev4 ?_
  refine g_aload_n C (f := 0) dX10_layAs_79 0 rfl ?_
  refine g_iconst C (n := 0) dX10_layAs_80 (by decide) ?_
  obtain ⟨v5, ev5, h⟩ := lt_e h
  refine g_putf C (k := 11) (kd := 0) okX10 (by decide) kf_RX10_202 dX10_layAs_81 (rg_ hC T0.1) T0.2.1 rfl rfl nvI (Or.inl rfl) v5 ev5 ?_
  refine g_iconst C (n := 0) dX10_layAs_84 (by decide) ?_
  refine g_istore_n C (f := 2) (ls' := [(2, (0, 0)), (0, (2, x0))]) dX10_layAs_85 (by decide) rfl ?_
  refine g_sub [1, 0] rfl rfl ?_
  exact tX10_layAs_86 C hr hlk hC _ _ _ _ T0 h
theorem tX10_layAs_2 (C : MC_ E p s m c cX10_layAs 4 RX10) (hr : meth.sig.returnType = (none : Option FieldType)) (hlk : meth.locks = false) (hC : Cl_ E.2.2.2.2.2 sz) {out : Int × V_} : ∀ (n : Nat) (x0 x1 x2 : Int) (v : V_), (E.2.2.2.2.2 x0 ∧ ty_ x0 = 10 ∧ ln_ x0 = 0) → (E.2.2.2.2.2 x1 ∧ ty_ x1 = 2 ∧ ln_ x1 = 0) → fX10_layAs_2 n x0 x1 x2 v = some out → G_ E p l e (rm_ 1 23) s m args below meth c 4 sz (Q_ E below args s sz sz 9 out.1 out.2) 2 [(0, (2, x0)), (1, (2, x1)), (2, (0, x2))] [] v sz := by
  intro n
  induction n with
  | zero =>
    intro x0 x1 x2 v T0 T1 h
    cases h
  | succ n H_2 =>
    intro x0 x1 x2 v T0 T1 h
    rw [fX10_layAs_2] at h
    refine g_iload_n C (f := 2) dX10_layAs_2 2 rfl ?_
    refine g_aload_n C (f := 0) dX10_layAs_3 0 rfl ?_
    refine g_getf C (k := 3) (kd := 0) okX10 (by decide) kf_RX10_38 dX10_layAs_4 (rg_ hC T0.1) T0.2.1 rfl ?_
    refine g_icmp_ge C 43 dX10_layAs_7 rfl (fun c1 => ?_) (fun c1 => ?_)
    · replace h := if_t h c1
      refine g_aload_n C (f := 0) dX10_layAs_43 0 rfl ?_
      refine g_aload_n C (f := 0) dX10_layAs_44 0 rfl ?_
      refine g_getf C (k := 3) (kd := 0) okX10 (by decide) kf_RX10_38 dX10_layAs_45 (rg_ hC T0.1) T0.2.1 rfl ?_
      refine g_if_le C 70 dX10_layAs_48 rfl (fun c2 => ?_) (fun c2 => ?_)
      · replace h := if_t h c2
        refine g_iconst C (n := 0) dX10_layAs_70 (by decide) ?_
        refine g_sub [0] rfl rfl ?_
        exact tX10_layAs_71 C hr hlk hC _ _ _ _ T0 T0 h
      · replace h := if_f h c2
        refine g_aload_n C (f := 0) dX10_layAs_51 0 rfl ?_
        have F28 := fX10_2 hC T0.1 T0.2.1
        refine g_getR C (k := 2) (o := 2) okX10 (by decide) kf_RX10_17 dX10_layAs_52 hC T0.1 T0.2.1 rfl rfl ?_
        refine g_aload_n C (f := 0) dX10_layAs_55 0 rfl ?_
        refine g_getf C (k := 3) (kd := 0) okX10 (by decide) kf_RX10_38 dX10_layAs_56 (rg_ hC T0.1) T0.2.1 rfl ?_
        refine g_iconst C (n := 1) dX10_layAs_59 (by decide) ?_
        refine g_isub C dX10_layAs_60 ?_
        obtain ⟨c29, h⟩ := ck_e h
        have F30 := fE_items (i := wr_ ((v x0 3) - 1)) hC F28.1 F28.2.1 F28.2.2 c29
        refine g_aald C 26 34 5 2 dX10_layAs_61 hC F28.1 F28.2.1 F28.2.2 c29 (by decide) oA_items ?_
        refine g_getf C (k := 7) (kd := 0) okX1 (by decide) kf_RX10_192 dX10_layAs_62 (rg_ hC F30.1) F30.2.1 rfl ?_
        refine g_iconst C (n := 1) dX10_layAs_65 (by decide) ?_
        refine g_iadd C dX10_layAs_66 ?_
        refine g_goto C 71 dX10_layAs_67 rfl ?_
        refine g_sub [0] rfl rfl ?_
        exact tX10_layAs_71 C hr hlk hC _ _ _ _ T0 T0 h
    · replace h := if_f h c1
      refine g_aload_n C (f := 0) dX10_layAs_10 0 rfl ?_
      have F31 := fX10_2 hC T0.1 T0.2.1
      refine g_getR C (k := 2) (o := 2) okX10 (by decide) kf_RX10_17 dX10_layAs_11 hC T0.1 T0.2.1 rfl rfl ?_
      refine g_iload_n C (f := 2) dX10_layAs_14 2 rfl ?_
      obtain ⟨c32, h⟩ := ck_e h
      have F33 := fE_items (i := x2) hC F31.1 F31.2.1 F31.2.2 c32
      refine g_aald C 26 34 5 2 dX10_layAs_15 hC F31.1 F31.2.1 F31.2.2 c32 (by decide) oA_items ?_
      refine g_aload_n C (f := 1) dX10_layAs_16 1 rfl ?_
      have F34 := fX2_0 hC T1.1 T1.2.1
      refine g_getR C (k := 0) (o := 1) okX2 (by decide) kf_RX10_187 dX10_layAs_17 hC T1.1 T1.2.1 rfl rfl ?_
      refine g_iload_n C (f := 2) dX10_layAs_20 2 rfl ?_
      obtain ⟨c35, h⟩ := ck_e h
      refine g_iald C 34 dX10_layAs_21 (rg_ hC F34.1) F34.2.1 F34.2.2 c35 ?_
      obtain ⟨v36, ev36, h⟩ := lt_e h
      refine g_putf C (k := 7) (kd := 0) okX1 (by decide) kf_RX10_192 dX10_layAs_22 (rg_ hC F33.1) F33.2.1 rfl rfl nvI (Or.inl rfl) v36 ev36 ?_
      refine g_aload_n C (f := 0) dX10_layAs_25 0 rfl ?_
      have F37 := fX10_12 hC T0.1 T0.2.1
      refine g_getR C (k := 12) (o := 3) okX10 (by decide) kf_RX10_21 dX10_layAs_26 hC T0.1 T0.2.1 rfl rfl ?_
      refine g_iload_n C (f := 2) dX10_layAs_29 2 rfl ?_
      refine g_aload_n C (f := 1) dX10_layAs_30 1 rfl ?_
      have F38 := fX2_1 hC T1.1 T1.2.1
      refine g_getR C (k := 1) (o := 2) okX2 (by decide) kf_RX10_195 dX10_layAs_31 hC T1.1 T1.2.1 rfl rfl ?_
      refine g_iload_n C (f := 2) dX10_layAs_34 2 rfl ?_
      obtain ⟨c39, h⟩ := ck_e h
      refine g_iald C 34 dX10_layAs_35 (rg_ hC F38.1) F38.2.1 F38.2.2 c39 ?_
      obtain ⟨c40, h⟩ := ck_e h
      obtain ⟨v41, ev41, h⟩ := lt_e h
      refine g_iast C 34 dX10_layAs_36 (rg_ hC F37.1) F37.2.1 F37.2.2 c40 v41 ev41 ?_
      obtain ⟨y42, ey42, h⟩ := lt_e h
      refine g_iincx C (ls' := [(2, (0, y42)), (0, (2, x0)), (1, (2, x1))]) ey42 dX10_layAs_37 2 rfl (by decide) (by decide) rfl ?_
      refine g_goto C 2 dX10_layAs_40 rfl ?_
      refine g_sub [1, 2, 0] rfl rfl ?_
      exact H_2 _ _ _ _ T0 T1 h
end
theorem cX10_layAs_ok (l : Launch) {E : En_} {sz : Int} (hC : Cl_ E.2.2.2.2.2 sz) {x0 x1 : Int} {v : V_} {out : Int × V_} (T0 : (E.2.2.2.2.2 x0 ∧ ty_ x0 = 10 ∧ ln_ x0 = 0)) (T1 : (E.2.2.2.2.2 x1 ∧ ty_ x1 = 2 ∧ ln_ x1 = 0)) (h : fX10_layAs x0 x1 v = some out) : Met l yX10_layAs [.code yX10_layAs cX10_layAs 4 (none : Option FieldType)] (rm_ 1 23) (Pc_ E sz v [(2, x0), (2, x1)]) (Qc_ E sz 9 out.1 out.2) 0 0 (fun q => E.1 < q) := by
  refine met_G0 RX10 (by decide +kernel) rfl (Nat.le_of_ble_eq_true rfl) ?_
  intro p e s m args below meth c C hr hlk
  rw [fX10_layAs] at h
  refine g_iconst C (n := 0) dX10_layAs_0 (by decide) ?_
  refine g_istore_n C (f := 2) (ls' := [(2, (0, 0)), (0, (2, x0)), (1, (2, x1))]) dX10_layAs_1 (by decide) rfl ?_
  refine g_sub [1, 2, 0] rfl rfl ?_
  exact tX10_layAs_2 C hr hlk hC _ _ _ _ _ T0 T1 h
theorem dX7_renames_0 : decode cX7_renames 0 = .ok (.aload_n 0, 1) := by decide +kernel
theorem dX7_renames_1 : decode cX7_renames 1 = .ok (.getfield 11, 3) := by decide +kernel
theorem dX7_renames_4 : decode cX7_renames 4 = .ok (.bipush 46, 2) := by decide +kernel
theorem dX7_renames_6 : decode cX7_renames 6 = .ok (.iaload, 1) := by decide +kernel
theorem dX7_renames_7 : decode cX7_renames 7 = .ok (.iconst 1, 1) := by decide +kernel
theorem dX7_renames_8 : decode cX7_renames 8 = .ok (.if_icmp .ne 7, 3) := by decide +kernel
theorem dX7_renames_11 : decode cX7_renames 11 = .ok (.iconst 1, 1) := by decide +kernel
theorem dX7_renames_12 : decode cX7_renames 12 = .ok (.goto 4, 3) := by decide +kernel
theorem dX7_renames_15 : decode cX7_renames 15 = .ok (.iconst 0, 1) := by decide +kernel
theorem dX7_renames_16 : decode cX7_renames 16 = .ok (.ireturn, 1) := by decide +kernel
def fX7_renames (x0 : Int) (v : V_) : Option (Int × V_) :=
  if (v (x0 + 1) 46) = 1 then (
    some (1, v))
  else (
    some (0, v))
theorem cX7_renames_ok (l : Launch) {E : En_} {sz : Int} (hC : Cl_ E.2.2.2.2.2 sz) {x0 : Int} {v : V_} {out : Int × V_} (T0 : (E.2.2.2.2.2 x0 ∧ ty_ x0 = 7 ∧ ln_ x0 = 0)) (h : fX7_renames x0 v = some out) : Met l yX7_renames [.code yX7_renames cX7_renames 1 (some FieldType.boolean)] (rm_ 0 0) (Pc_ E sz v [(2, x0)]) (Qc_ E sz 0 out.1 out.2) 0 0 (fun q => E.1 < q) := by
  refine met_G0 RX7 (by decide +kernel) rfl (Nat.le_of_ble_eq_true rfl) ?_
  intro p e s m args below meth c C hr hlk
  rw [fX7_renames] at h
  refine g_aload_n C (f := 0) dX7_renames_0 0 rfl ?_
  have F1 := fX7_0 hC T0.1 T0.2.1
  refine g_getR C (k := 0) (o := 1) okX7 (by decide) kf_RX7_11 dX7_renames_1 hC T0.1 T0.2.1 rfl rfl ?_
  refine g_bipush C (n := 46) dX7_renames_4 (by decide) ?_
  refine g_iald C 47 dX7_renames_6 (rg_ hC F1.1) F1.2.1 F1.2.2 (by decide) ?_
  refine g_iconst C (n := 1) dX7_renames_7 (by decide) ?_
  refine g_icmp_ne C 15 dX7_renames_8 rfl (fun c2 => ?_) (fun c2 => ?_)
  · replace h := if_f h c2
    refine g_iconst C (n := 0) dX7_renames_15 (by decide) ?_
    cases h
    exact g_zret C dX7_renames_16 hr hlk (Or.inl rfl)
  · replace h := if_t h c2
    refine g_iconst C (n := 1) dX7_renames_11 (by decide) ?_
    refine g_goto C 16 dX7_renames_12 rfl ?_
    cases h
    exact g_zret C dX7_renames_16 hr hlk (Or.inr rfl)
theorem dX7_unitsOf_0 : decode cX7_unitsOf 0 = .ok (.aload_n 0, 1) := by decide +kernel
theorem dX7_unitsOf_1 : decode cX7_unitsOf 1 = .ok (.getfield 11, 3) := by decide +kernel
theorem dX7_unitsOf_4 : decode cX7_unitsOf 4 = .ok (.bipush 38, 2) := by decide +kernel
theorem dX7_unitsOf_6 : decode cX7_unitsOf 6 = .ok (.iload_n 1, 1) := by decide +kernel
theorem dX7_unitsOf_7 : decode cX7_unitsOf 7 = .ok (.iadd, 1) := by decide +kernel
theorem dX7_unitsOf_8 : decode cX7_unitsOf 8 = .ok (.iaload, 1) := by decide +kernel
theorem dX7_unitsOf_9 : decode cX7_unitsOf 9 = .ok (.ireturn, 1) := by decide +kernel
def fX7_unitsOf (x0 x1 : Int) (v : V_) : Option (Int × V_) :=
  ck_ (0 ≤ wr_ (38 + x1) ∧ wr_ (38 + x1) < 47) (
  some (v (x0 + 1) (wr_ (38 + x1)), v))
theorem cX7_unitsOf_ok (l : Launch) {E : En_} {sz : Int} (hC : Cl_ E.2.2.2.2.2 sz) {x0 x1 : Int} {v : V_} {out : Int × V_} (T0 : (E.2.2.2.2.2 x0 ∧ ty_ x0 = 7 ∧ ln_ x0 = 0)) (h : fX7_unitsOf x0 x1 v = some out) : Met l yX7_unitsOf [.code yX7_unitsOf cX7_unitsOf 2 (some FieldType.int)] (rm_ 0 0) (Pc_ E sz v [(2, x0), (0, x1)]) (Qc_ E sz 0 out.1 out.2) 0 0 (fun q => E.1 < q) := by
  refine met_G0 RX7 (by decide +kernel) rfl (Nat.le_of_ble_eq_true rfl) ?_
  intro p e s m args below meth c C hr hlk
  rw [fX7_unitsOf] at h
  refine g_aload_n C (f := 0) dX7_unitsOf_0 0 rfl ?_
  have F1 := fX7_0 hC T0.1 T0.2.1
  refine g_getR C (k := 0) (o := 1) okX7 (by decide) kf_RX7_11 dX7_unitsOf_1 hC T0.1 T0.2.1 rfl rfl ?_
  refine g_bipush C (n := 38) dX7_unitsOf_4 (by decide) ?_
  refine g_iload_n C (f := 1) dX7_unitsOf_6 1 rfl ?_
  refine g_iadd C dX7_unitsOf_7 ?_
  obtain ⟨c2, h⟩ := ck_e h
  refine g_iald C 47 dX7_unitsOf_8 (rg_ hC F1.1) F1.2.1 F1.2.2 c2 ?_
  cases h
  exact g_iret C dX7_unitsOf_9 hr hlk
theorem dX4_layTraces_0 : decode cX4_layTraces 0 = .ok (.iconst 0, 1) := by decide +kernel
theorem dX4_layTraces_1 : decode cX4_layTraces 1 = .ok (.istore_n 3, 1) := by decide +kernel
theorem dX4_layTraces_2 : decode cX4_layTraces 2 = .ok (.iload_n 3, 1) := by decide +kernel
theorem dX4_layTraces_3 : decode cX4_layTraces 3 = .ok (.iconst 4, 1) := by decide +kernel
theorem dX4_layTraces_4 : decode cX4_layTraces 4 = .ok (.if_icmp .ge 20, 3) := by decide +kernel
theorem dX4_layTraces_7 : decode cX4_layTraces 7 = .ok (.aload_n 0, 1) := by decide +kernel
theorem dX4_layTraces_8 : decode cX4_layTraces 8 = .ok (.getfield 24, 3) := by decide +kernel
theorem dX4_layTraces_11 : decode cX4_layTraces 11 = .ok (.iload_n 3, 1) := by decide +kernel
theorem dX4_layTraces_12 : decode cX4_layTraces 12 = .ok (.aload_n 2, 1) := by decide +kernel
theorem dX4_layTraces_13 : decode cX4_layTraces 13 = .ok (.iload_n 3, 1) := by decide +kernel
theorem dX4_layTraces_14 : decode cX4_layTraces 14 = .ok (.invokevirtual 46, 3) := by decide +kernel
theorem dX4_layTraces_17 : decode cX4_layTraces 17 = .ok (.iastore, 1) := by decide +kernel
theorem dX4_layTraces_18 : decode cX4_layTraces 18 = .ok (.iinc 3 1, 3) := by decide +kernel
theorem dX4_layTraces_21 : decode cX4_layTraces 21 = .ok (.goto (-19), 3) := by decide +kernel
theorem dX4_layTraces_24 : decode cX4_layTraces 24 = .ok (.iconst 0, 1) := by decide +kernel
theorem dX4_layTraces_25 : decode cX4_layTraces 25 = .ok (.istore_n 3, 1) := by decide +kernel
theorem dX4_layTraces_26 : decode cX4_layTraces 26 = .ok (.iload_n 3, 1) := by decide +kernel
theorem dX4_layTraces_27 : decode cX4_layTraces 27 = .ok (.aload_n 0, 1) := by decide +kernel
theorem dX4_layTraces_28 : decode cX4_layTraces 28 = .ok (.getfield 35, 3) := by decide +kernel
theorem dX4_layTraces_31 : decode cX4_layTraces 31 = .ok (.if_icmp .ge 66, 3) := by decide +kernel
theorem dX4_layTraces_34 : decode cX4_layTraces 34 = .ok (.aload_n 0, 1) := by decide +kernel
theorem dX4_layTraces_35 : decode cX4_layTraces 35 = .ok (.getfield 11, 3) := by decide +kernel
theorem dX4_layTraces_38 : decode cX4_layTraces 38 = .ok (.iload_n 3, 1) := by decide +kernel
theorem dX4_layTraces_39 : decode cX4_layTraces 39 = .ok (.aaload, 1) := by decide +kernel
theorem dX4_layTraces_40 : decode cX4_layTraces 40 = .ok (.astore 4, 2) := by decide +kernel
theorem dX4_layTraces_42 : decode cX4_layTraces 42 = .ok (.aload 4, 2) := by decide +kernel
theorem dX4_layTraces_44 : decode cX4_layTraces 44 = .ok (.aload_n 1, 1) := by decide +kernel
theorem dX4_layTraces_45 : decode cX4_layTraces 45 = .ok (.aload_n 2, 1) := by decide +kernel
theorem dX4_layTraces_46 : decode cX4_layTraces 46 = .ok (.invokevirtual 52, 3) := by decide +kernel
theorem dX4_layTraces_49 : decode cX4_layTraces 49 = .ok (.invokevirtual 56, 3) := by decide +kernel
theorem dX4_layTraces_52 : decode cX4_layTraces 52 = .ok (.aload 4, 2) := by decide +kernel
theorem dX4_layTraces_54 : decode cX4_layTraces 54 = .ok (.aload_n 1, 1) := by decide +kernel
theorem dX4_layTraces_55 : decode cX4_layTraces 55 = .ok (.aload_n 2, 1) := by decide +kernel
theorem dX4_layTraces_56 : decode cX4_layTraces 56 = .ok (.invokevirtual 60, 3) := by decide +kernel
theorem dX4_layTraces_59 : decode cX4_layTraces 59 = .ok (.aload 4, 2) := by decide +kernel
theorem dX4_layTraces_61 : decode cX4_layTraces 61 = .ok (.aload_n 0, 1) := by decide +kernel
theorem dX4_layTraces_62 : decode cX4_layTraces 62 = .ok (.getfield 24, 3) := by decide +kernel
theorem dX4_layTraces_65 : decode cX4_layTraces 65 = .ok (.invokevirtual 64, 3) := by decide +kernel
theorem dX4_layTraces_68 : decode cX4_layTraces 68 = .ok (.aload_n 0, 1) := by decide +kernel
theorem dX4_layTraces_69 : decode cX4_layTraces 69 = .ok (.getfield 30, 3) := by decide +kernel
theorem dX4_layTraces_72 : decode cX4_layTraces 72 = .ok (.aload 4, 2) := by decide +kernel
theorem dX4_layTraces_74 : decode cX4_layTraces 74 = .ok (.aload_n 0, 1) := by decide +kernel
theorem dX4_layTraces_75 : decode cX4_layTraces 75 = .ok (.getfield 24, 3) := by decide +kernel
theorem dX4_layTraces_78 : decode cX4_layTraces 78 = .ok (.invokevirtual 68, 3) := by decide +kernel
theorem dX4_layTraces_81 : decode cX4_layTraces 81 = .ok (.pop, 1) := by decide +kernel
theorem dX4_layTraces_82 : decode cX4_layTraces 82 = .ok (.aload 4, 2) := by decide +kernel
theorem dX4_layTraces_84 : decode cX4_layTraces 84 = .ok (.aload_n 0, 1) := by decide +kernel
theorem dX4_layTraces_85 : decode cX4_layTraces 85 = .ok (.getfield 30, 3) := by decide +kernel
theorem dX4_layTraces_88 : decode cX4_layTraces 88 = .ok (.invokevirtual 72, 3) := by decide +kernel
theorem dX4_layTraces_91 : decode cX4_layTraces 91 = .ok (.iinc 3 1, 3) := by decide +kernel
theorem dX4_layTraces_94 : decode cX4_layTraces 94 = .ok (.goto (-68), 3) := by decide +kernel
theorem dX4_layTraces_97 : decode cX4_layTraces 97 = .ok (.return_, 1) := by decide +kernel
def fX4_layTraces_26 : Nat → Int → Int → Int → Int → V_ → Option (Int × V_)
  | 0, _, _, _, _, _ => none
  | n + 1, x0, x1, x2, x3, v =>
    if (v x0 0) ≤ x3 then (
      some (0, v))
    else (
      ck_ (0 ≤ x3 ∧ x3 < 8) (
      lt_ ((x0 + 1) + (10 + 75 * x3)) fun y6 =>
      bd_ (fX7_renames x2 v) fun q8 =>
      bd_ (fX10_gather y6 x1 q8.1 q8.2) fun q9 =>
      bd_ (fX10_findNeeds y6 x1 x2 q9.2) fun q10 =>
      bd_ (fX10_findFloor y6 (x0 + 4) q10.2) fun q12 =>
      bd_ (fX2_lay (x0 + 5) y6 (x0 + 4) q12.2) fun q15 =>
      bd_ (fX10_layAs y6 (x0 + 5) q15.2) fun q17 =>
      lt_ (wr_ (x3 + 1)) fun y18 =>
      (fX4_layTraces_26 n) x0 x1 x2 y18 q17.2))
def fX4_layTraces_2 : Nat → Int → Int → Int → Int → V_ → Option (Int × V_)
  | 0, _, _, _, _, _ => none
  | n + 1, x0, x1, x2, x3, v =>
    if 4 ≤ x3 then (
      fX4_layTraces_26 fu_ x0 x1 x2 0 v)
    else (
      bd_ (fX7_unitsOf x2 x3 v) fun q20 =>
      ck_ (0 ≤ x3 ∧ x3 < 4) (
      lt_ (up_ q20.2 (x0 + 4) x3 q20.1) fun v22 =>
      lt_ (wr_ (x3 + 1)) fun y23 =>
      (fX4_layTraces_2 n) x0 x1 x2 y23 v22))
def fX4_layTraces (x0 x1 x2 : Int) (v : V_) : Option (Int × V_) :=
  fX4_layTraces_2 fu_ x0 x1 x2 0 v
section
variable {E : En_} {p : Program} {l : Launch} {e : Env} {s : State} {m : MethodId} {args : Array Value} {below : List Frame} {meth : Method} {c : Code} {sz : Int}
theorem tX4_layTraces_26 (C : MC_ E p s m c cX4_layTraces 5 RX4) (hr : meth.sig.returnType = (none : Option FieldType)) (hlk : meth.locks = false) (hC : Cl_ E.2.2.2.2.2 sz) {out : Int × V_} : ∀ (n : Nat) (x0 x1 x2 x3 : Int) (v : V_), (E.2.2.2.2.2 x0 ∧ ty_ x0 = 4 ∧ ln_ x0 = 0) → (E.2.2.2.2.2 x1 ∧ ty_ x1 = 5 ∧ ln_ x1 = 0) → (E.2.2.2.2.2 x2 ∧ ty_ x2 = 7 ∧ ln_ x2 = 0) → fX4_layTraces_26 n x0 x1 x2 x3 v = some out → G_ E p l e (rm_ 4 99) s m args below meth c 5 sz (Q_ E below args s sz sz 9 out.1 out.2) 26 [(0, (2, x0)), (1, (2, x1)), (2, (2, x2)), (3, (0, x3))] [] v sz := by
  intro n
  induction n with
  | zero =>
    intro x0 x1 x2 x3 v T0 T1 T2 h
    cases h
  | succ n H_26 =>
    intro x0 x1 x2 x3 v T0 T1 T2 h
    rw [fX4_layTraces_26] at h
    refine g_iload_n C (f := 3) dX4_layTraces_26 3 rfl ?_
    refine g_aload_n C (f := 0) dX4_layTraces_27 0 rfl ?_
    refine g_getf C (k := 0) (kd := 0) okX4 (by decide) kf_RX4_35 dX4_layTraces_28 (rg_ hC T0.1) T0.2.1 rfl ?_
    refine g_icmp_ge C 97 dX4_layTraces_31 rfl (fun c2 => ?_) (fun c2 => ?_)
    · replace h := if_t h c2
      cases h
      exact g_vret C dX4_layTraces_97 hr hlk
    · replace h := if_f h c2
      refine g_aload_n C (f := 0) dX4_layTraces_34 0 rfl ?_
      have F3 := fX4_2 hC T0.1 T0.2.1
      refine g_getR C (k := 2) (o := 1) okX4 (by decide) kf_RX4_11 dX4_layTraces_35 hC T0.1 T0.2.1 rfl rfl ?_
      refine g_iload_n C (f := 3) dX4_layTraces_38 3 rfl ?_
      obtain ⟨c4, h⟩ := ck_e h
      have F5 := fE_traces (i := x3) hC F3.1 F3.2.1 F3.2.2 c4
      refine g_aald C 27 8 10 75 dX4_layTraces_39 hC F3.1 F3.2.1 F3.2.2 c4 (by decide) oA_traces ?_
      obtain ⟨y6, ey6, h⟩ := lt_e h
      refine g_set C ey6 ?_
      have F7 : (E.2.2.2.2.2 y6 ∧ ty_ y6 = 10 ∧ ln_ y6 = 0) := by rw [ey6]; exact F5
      refine g_astore C (i := 4) (ls' := [(4, (2, y6)), (0, (2, x0)), (1, (2, x1)), (2, (2, x2)), (3, (0, x3))]) dX4_layTraces_40 (by decide) rfl ?_
      refine g_aload C (i := 4) dX4_layTraces_42 0 rfl ?_
      refine g_aload_n C (f := 1) dX4_layTraces_44 2 rfl ?_
      refine g_aload_n C (f := 2) dX4_layTraces_45 3 rfl ?_
      obtain ⟨q8, eq8, h⟩ := bd_e h
      refine g_cV C [] (cX7_renames_ok l hC T2 eq8) okX7 T2.2.1 (rg_ hC T2.1) km_RX4_52 cv_X7_renames rfl (by decide) rfl rfl (Nat.le_of_ble_eq_true rfl) dX4_layTraces_46 ?_
      obtain ⟨q9, eq9, h⟩ := bd_e h
      refine g_cV C [(2, x1), (0, q8.1)] (cX10_gather_ok l hC F7 T1 eq9) okX10 F7.2.1 (rg_ hC F7.1) km_RX4_56 cv_X10_gather rfl (by decide) rfl rfl (Nat.le_of_ble_eq_true rfl) dX4_layTraces_49 ?_
      refine g_aload C (i := 4) dX4_layTraces_52 0 rfl ?_
      refine g_aload_n C (f := 1) dX4_layTraces_54 2 rfl ?_
      refine g_aload_n C (f := 2) dX4_layTraces_55 3 rfl ?_
      obtain ⟨q10, eq10, h⟩ := bd_e h
      refine g_cV C [(2, x1), (2, x2)] (cX10_findNeeds_ok l hC F7 T1 T2 eq10) okX10 F7.2.1 (rg_ hC F7.1) km_RX4_60 cv_X10_findNeeds rfl (by decide) rfl rfl (Nat.le_of_ble_eq_true rfl) dX4_layTraces_56 ?_
      refine g_aload C (i := 4) dX4_layTraces_59 0 rfl ?_
      refine g_aload_n C (f := 0) dX4_layTraces_61 1 rfl ?_
      have F11 := fX4_5 hC T0.1 T0.2.1
      refine g_getR C (k := 5) (o := 4) okX4 (by decide) kf_RX4_24 dX4_layTraces_62 hC T0.1 T0.2.1 rfl rfl ?_
      obtain ⟨q12, eq12, h⟩ := bd_e h
      refine g_cV C [(2, x0 + 4)] (cX10_findFloor_ok l hC F7 F11 eq12) okX10 F7.2.1 (rg_ hC F7.1) km_RX4_64 cv_X10_findFloor rfl (by decide) rfl rfl (Nat.le_of_ble_eq_true rfl) dX4_layTraces_65 ?_
      refine g_aload_n C (f := 0) dX4_layTraces_68 1 rfl ?_
      have F13 := fX4_6 hC T0.1 T0.2.1
      refine g_getR C (k := 6) (o := 5) okX4 (by decide) kf_RX4_30 dX4_layTraces_69 hC T0.1 T0.2.1 rfl rfl ?_
      refine g_aload C (i := 4) dX4_layTraces_72 0 rfl ?_
      refine g_aload_n C (f := 0) dX4_layTraces_74 1 rfl ?_
      have F14 := fX4_5 hC T0.1 T0.2.1
      refine g_getR C (k := 5) (o := 4) okX4 (by decide) kf_RX4_24 dX4_layTraces_75 hC T0.1 T0.2.1 rfl rfl ?_
      obtain ⟨q15, eq15, h⟩ := bd_e h
      refine g_cV C [(2, y6), (2, x0 + 4)] (cX2_lay_ok l hC F13 F7 F14 eq15) okX2 F13.2.1 (rg_ hC F13.1) km_RX4_68 cv_X2_lay rfl (by decide) rfl rfl (Nat.le_of_ble_eq_true rfl) dX4_layTraces_78 ?_
      refine g_pop C (Nat.ne_of_beq_eq_false rfl) dX4_layTraces_81 ?_
      refine g_aload C (i := 4) dX4_layTraces_82 0 rfl ?_
      refine g_aload_n C (f := 0) dX4_layTraces_84 1 rfl ?_
      have F16 := fX4_6 hC T0.1 T0.2.1
      refine g_getR C (k := 6) (o := 5) okX4 (by decide) kf_RX4_30 dX4_layTraces_85 hC T0.1 T0.2.1 rfl rfl ?_
      obtain ⟨q17, eq17, h⟩ := bd_e h
      refine g_cV C [(2, x0 + 5)] (cX10_layAs_ok l hC F7 F16 eq17) okX10 F7.2.1 (rg_ hC F7.1) km_RX4_72 cv_X10_layAs rfl (by decide) rfl rfl (Nat.le_of_ble_eq_true rfl) dX4_layTraces_88 ?_
      obtain ⟨y18, ey18, h⟩ := lt_e h
      refine g_iincx C (ls' := [(3, (0, y18)), (4, (2, y6)), (0, (2, x0)), (1, (2, x1)), (2, (2, x2))]) ey18 dX4_layTraces_91 4 rfl (by decide) (by decide) rfl ?_
      refine g_goto C 26 dX4_layTraces_94 rfl ?_
      refine g_sub [2, 3, 4, 0] rfl rfl ?_
      exact H_26 _ _ _ _ _ T0 T1 T2 h
theorem tX4_layTraces_2 (C : MC_ E p s m c cX4_layTraces 5 RX4) (hr : meth.sig.returnType = (none : Option FieldType)) (hlk : meth.locks = false) (hC : Cl_ E.2.2.2.2.2 sz) {out : Int × V_} : ∀ (n : Nat) (x0 x1 x2 x3 : Int) (v : V_), (E.2.2.2.2.2 x0 ∧ ty_ x0 = 4 ∧ ln_ x0 = 0) → (E.2.2.2.2.2 x1 ∧ ty_ x1 = 5 ∧ ln_ x1 = 0) → (E.2.2.2.2.2 x2 ∧ ty_ x2 = 7 ∧ ln_ x2 = 0) → fX4_layTraces_2 n x0 x1 x2 x3 v = some out → G_ E p l e (rm_ 4 99) s m args below meth c 5 sz (Q_ E below args s sz sz 9 out.1 out.2) 2 [(0, (2, x0)), (1, (2, x1)), (2, (2, x2)), (3, (0, x3))] [] v sz := by
  intro n
  induction n with
  | zero =>
    intro x0 x1 x2 x3 v T0 T1 T2 h
    cases h
  | succ n H_2 =>
    intro x0 x1 x2 x3 v T0 T1 T2 h
    rw [fX4_layTraces_2] at h
    refine g_iload_n C (f := 3) dX4_layTraces_2 3 rfl ?_
    refine g_iconst C (n := 4) dX4_layTraces_3 (by decide) ?_
    refine g_icmp_ge C 24 dX4_layTraces_4 rfl (fun c1 => ?_) (fun c1 => ?_)
    · replace h := if_t h c1
      refine g_iconst C (n := 0) dX4_layTraces_24 (by decide) ?_
      refine g_istore_n C (f := 3) (ls' := [(3, (0, 0)), (0, (2, x0)), (1, (2, x1)), (2, (2, x2))]) dX4_layTraces_25 (by decide) rfl ?_
      refine g_sub [1, 2, 3, 0] rfl rfl ?_
      exact tX4_layTraces_26 C hr hlk hC _ _ _ _ _ _ T0 T1 T2 h
    · replace h := if_f h c1
      refine g_aload_n C (f := 0) dX4_layTraces_7 0 rfl ?_
      have F19 := fX4_5 hC T0.1 T0.2.1
      refine g_getR C (k := 5) (o := 4) okX4 (by decide) kf_RX4_24 dX4_layTraces_8 hC T0.1 T0.2.1 rfl rfl ?_
      refine g_iload_n C (f := 3) dX4_layTraces_11 3 rfl ?_
      refine g_aload_n C (f := 2) dX4_layTraces_12 2 rfl ?_
      refine g_iload_n C (f := 3) dX4_layTraces_13 3 rfl ?_
      obtain ⟨q20, eq20, h⟩ := bd_e h
      refine g_cV C [(0, x3)] (cX7_unitsOf_ok l hC T2 eq20) okX7 T2.2.1 (rg_ hC T2.1) km_RX4_46 cv_X7_unitsOf rfl (by decide) rfl rfl (Nat.le_of_ble_eq_true rfl) dX4_layTraces_14 ?_
      obtain ⟨c21, h⟩ := ck_e h
      obtain ⟨v22, ev22, h⟩ := lt_e h
      refine g_iast C 4 dX4_layTraces_17 (rg_ hC F19.1) F19.2.1 F19.2.2 c21 v22 ev22 ?_
      obtain ⟨y23, ey23, h⟩ := lt_e h
      refine g_iincx C (ls' := [(3, (0, y23)), (0, (2, x0)), (1, (2, x1)), (2, (2, x2))]) ey23 dX4_layTraces_18 3 rfl (by decide) (by decide) rfl ?_
      refine g_goto C 2 dX4_layTraces_21 rfl ?_
      refine g_sub [1, 2, 3, 0] rfl rfl ?_
      exact H_2 _ _ _ _ _ T0 T1 T2 h
end
theorem cX4_layTraces_ok (l : Launch) {E : En_} {sz : Int} (hC : Cl_ E.2.2.2.2.2 sz) {x0 x1 x2 : Int} {v : V_} {out : Int × V_} (T0 : (E.2.2.2.2.2 x0 ∧ ty_ x0 = 4 ∧ ln_ x0 = 0)) (T1 : (E.2.2.2.2.2 x1 ∧ ty_ x1 = 5 ∧ ln_ x1 = 0)) (T2 : (E.2.2.2.2.2 x2 ∧ ty_ x2 = 7 ∧ ln_ x2 = 0)) (h : fX4_layTraces x0 x1 x2 v = some out) : Met l yX4_layTraces [.code yX4_layTraces cX4_layTraces 5 (none : Option FieldType)] (rm_ 4 99) (Pc_ E sz v [(2, x0), (2, x1), (2, x2)]) (Qc_ E sz 9 out.1 out.2) 0 0 (fun q => E.1 < q) := by
  refine met_G0 RX4 (by decide +kernel) rfl (Nat.le_of_ble_eq_true rfl) ?_
  intro p e s m args below meth c C hr hlk
  rw [fX4_layTraces] at h
  refine g_iconst C (n := 0) dX4_layTraces_0 (by decide) ?_
  refine g_istore_n C (f := 3) (ls' := [(3, (0, 0)), (0, (2, x0)), (1, (2, x1)), (2, (2, x2))]) dX4_layTraces_1 (by decide) rfl ?_
  refine g_sub [1, 2, 3, 0] rfl rfl ?_
  exact tX4_layTraces_2 C hr hlk hC _ _ _ _ _ _ T0 T1 T2 h
theorem dX4_placeOf_0 : decode cX4_placeOf 0 = .ok (.aload_n 0, 1) := by decide +kernel
theorem dX4_placeOf_1 : decode cX4_placeOf 1 = .ok (.getfield 21, 3) := by decide +kernel
theorem dX4_placeOf_4 : decode cX4_placeOf 4 = .ok (.iload_n 1, 1) := by decide +kernel
theorem dX4_placeOf_5 : decode cX4_placeOf 5 = .ok (.iaload, 1) := by decide +kernel
theorem dX4_placeOf_6 : decode cX4_placeOf 6 = .ok (.ireturn, 1) := by decide +kernel
def fX4_placeOf (x0 x1 : Int) (v : V_) : Option (Int × V_) :=
  ck_ (0 ≤ x1 ∧ x1 < 8) (
  some (v (x0 + 3) x1, v))
theorem cX4_placeOf_ok (l : Launch) {E : En_} {sz : Int} (hC : Cl_ E.2.2.2.2.2 sz) {x0 x1 : Int} {v : V_} {out : Int × V_} (T0 : (E.2.2.2.2.2 x0 ∧ ty_ x0 = 4 ∧ ln_ x0 = 0)) (h : fX4_placeOf x0 x1 v = some out) : Met l yX4_placeOf [.code yX4_placeOf cX4_placeOf 2 (some FieldType.int)] (rm_ 0 0) (Pc_ E sz v [(2, x0), (0, x1)]) (Qc_ E sz 0 out.1 out.2) 0 0 (fun q => E.1 < q) := by
  refine met_G0 RX4 (by decide +kernel) rfl (Nat.le_of_ble_eq_true rfl) ?_
  intro p e s m args below meth c C hr hlk
  rw [fX4_placeOf] at h
  refine g_aload_n C (f := 0) dX4_placeOf_0 0 rfl ?_
  have F1 := fX4_4 hC T0.1 T0.2.1
  refine g_getR C (k := 4) (o := 3) okX4 (by decide) kf_RX4_21 dX4_placeOf_1 hC T0.1 T0.2.1 rfl rfl ?_
  refine g_iload_n C (f := 1) dX4_placeOf_4 1 rfl ?_
  obtain ⟨c2, h⟩ := ck_e h
  refine g_iald C 8 dX4_placeOf_5 (rg_ hC F1.1) F1.2.1 F1.2.2 c2 ?_
  cases h
  exact g_iret C dX4_placeOf_6 hr hlk
