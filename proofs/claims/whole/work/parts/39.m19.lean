theorem dX12_endOf_0 : decode cX12_endOf 0 = .ok (.aload_n 0, 1) := by decide +kernel
theorem dX12_endOf_1 : decode cX12_endOf 1 = .ok (.getfield 70, 3) := by decide +kernel
theorem dX12_endOf_4 : decode cX12_endOf 4 = .ok (.bipush 8, 2) := by decide +kernel
theorem dX12_endOf_6 : decode cX12_endOf 6 = .ok (.aload_n 0, 1) := by decide +kernel
theorem dX12_endOf_7 : decode cX12_endOf 7 = .ok (.getfield 272, 3) := by decide +kernel
theorem dX12_endOf_10 : decode cX12_endOf 10 = .ok (.imul, 1) := by decide +kernel
theorem dX12_endOf_11 : decode cX12_endOf 11 = .ok (.iload_n 1, 1) := by decide +kernel
theorem dX12_endOf_12 : decode cX12_endOf 12 = .ok (.iadd, 1) := by decide +kernel
theorem dX12_endOf_13 : decode cX12_endOf 13 = .ok (.iaload, 1) := by decide +kernel
theorem dX12_endOf_14 : decode cX12_endOf 14 = .ok (.ireturn, 1) := by decide +kernel
def fX12_endOf (x0 x1 : Int) (v : V_) : Option (Int × V_) :=
  ck_ (0 ≤ wr_ ((wr_ (8 * (v x0 18))) + x1) ∧ wr_ ((wr_ (8 * (v x0 18))) + x1) < 16) (
  some (v (x0 + 18) (wr_ ((wr_ (8 * (v x0 18))) + x1)), v))
theorem cX12_endOf_ok (l : Launch) {E : En_} {sz : Int} (hC : Cl_ E.2.2.2.2.2 sz) {x0 x1 : Int} {v : V_} {out : Int × V_} (T0 : (E.2.2.2.2.2 x0 ∧ ty_ x0 = 12 ∧ ln_ x0 = 0)) (h : fX12_endOf x0 x1 v = some out) : Met l yX12_endOf [.code yX12_endOf cX12_endOf 2 (some FieldType.int)] (rm_ 0 0) (Pc_ E sz v [(2, x0), (0, x1)]) (Qc_ E sz 0 out.1 out.2) 0 0 (fun q => E.1 < q) := by
  refine met_G0 RX12 (by decide +kernel) rfl (Nat.le_of_ble_eq_true rfl) ?_
  intro p e s m args below meth c C hr hlk
  rw [fX12_endOf] at h
  refine g_aload_n C (f := 0) dX12_endOf_0 0 rfl ?_
  have F1 := fX12_31 hC T0.1 T0.2.1
  refine g_getR C (k := 31) (o := 18) okX12 (by decide) kf_RX12_70 dX12_endOf_1 hC T0.1 T0.2.1 rfl rfl ?_
  refine g_bipush C (n := 8) dX12_endOf_4 (by decide) ?_
  refine g_aload_n C (f := 0) dX12_endOf_6 0 rfl ?_
  refine g_getf C (k := 18) (kd := 0) okX12 (by decide) kf_RX12_272 dX12_endOf_7 (rg_ hC T0.1) T0.2.1 rfl ?_
  refine g_imul C dX12_endOf_10 ?_
  refine g_iload_n C (f := 1) dX12_endOf_11 1 rfl ?_
  refine g_iadd C dX12_endOf_12 ?_
  obtain ⟨c2, h⟩ := ck_e h
  refine g_iald C 16 dX12_endOf_13 (rg_ hC F1.1) F1.2.1 F1.2.2 c2 ?_
  cases h
  exact g_iret C dX12_endOf_14 hr hlk
theorem dX12_waysOf_0 : decode cX12_waysOf 0 = .ok (.aload_n 0, 1) := by decide +kernel
theorem dX12_waysOf_1 : decode cX12_waysOf 1 = .ok (.iload_n 1, 1) := by decide +kernel
theorem dX12_waysOf_2 : decode cX12_waysOf 2 = .ok (.invokevirtual 338, 3) := by decide +kernel
theorem dX12_waysOf_5 : decode cX12_waysOf 5 = .ok (.iconst 2, 1) := by decide +kernel
theorem dX12_waysOf_6 : decode cX12_waysOf 6 = .ok (.if_icmp .ne 7, 3) := by decide +kernel
theorem dX12_waysOf_9 : decode cX12_waysOf 9 = .ok (.iconst 0, 1) := by decide +kernel
theorem dX12_waysOf_10 : decode cX12_waysOf 10 = .ok (.goto 10, 3) := by decide +kernel
theorem dX12_waysOf_13 : decode cX12_waysOf 13 = .ok (.aload_n 0, 1) := by decide +kernel
theorem dX12_waysOf_14 : decode cX12_waysOf 14 = .ok (.iload_n 1, 1) := by decide +kernel
theorem dX12_waysOf_15 : decode cX12_waysOf 15 = .ok (.invokevirtual 338, 3) := by decide +kernel
theorem dX12_waysOf_18 : decode cX12_waysOf 18 = .ok (.iconst 1, 1) := by decide +kernel
theorem dX12_waysOf_19 : decode cX12_waysOf 19 = .ok (.iadd, 1) := by decide +kernel
theorem dX12_waysOf_20 : decode cX12_waysOf 20 = .ok (.ireturn, 1) := by decide +kernel
def fX12_waysOf (x0 x1 : Int) (v : V_) : Option (Int × V_) :=
  bd_ (fX12_endOf x0 x1 v) fun q1 =>
  if q1.1 = 2 then (
    some (0, q1.2))
  else (
    bd_ (fX12_endOf x0 x1 q1.2) fun q3 =>
    some (wr_ (q3.1 + 1), q3.2))
theorem cX12_waysOf_ok (l : Launch) {E : En_} {sz : Int} (hC : Cl_ E.2.2.2.2.2 sz) {x0 x1 : Int} {v : V_} {out : Int × V_} (T0 : (E.2.2.2.2.2 x0 ∧ ty_ x0 = 12 ∧ ln_ x0 = 0)) (h : fX12_waysOf x0 x1 v = some out) : Met l yX12_waysOf [.code yX12_waysOf cX12_waysOf 2 (some FieldType.int)] (rm_ 1 21) (Pc_ E sz v [(2, x0), (0, x1)]) (Qc_ E sz 0 out.1 out.2) 0 0 (fun q => E.1 < q) := by
  refine met_G0 RX12 (by decide +kernel) rfl (Nat.le_of_ble_eq_true rfl) ?_
  intro p e s m args below meth c C hr hlk
  rw [fX12_waysOf] at h
  refine g_aload_n C (f := 0) dX12_waysOf_0 0 rfl ?_
  refine g_iload_n C (f := 1) dX12_waysOf_1 1 rfl ?_
  obtain ⟨q1, eq1, h⟩ := bd_e h
  refine g_cV C [(0, x1)] (cX12_endOf_ok l hC T0 eq1) okX12 T0.2.1 (rg_ hC T0.1) km_RX12_338 cv_X12_endOf rfl (by decide) rfl rfl (Nat.le_of_ble_eq_true rfl) dX12_waysOf_2 ?_
  refine g_iconst C (n := 2) dX12_waysOf_5 (by decide) ?_
  refine g_icmp_ne C 13 dX12_waysOf_6 rfl (fun c2 => ?_) (fun c2 => ?_)
  · replace h := if_f h c2
    refine g_aload_n C (f := 0) dX12_waysOf_13 0 rfl ?_
    refine g_iload_n C (f := 1) dX12_waysOf_14 1 rfl ?_
    obtain ⟨q3, eq3, h⟩ := bd_e h
    refine g_cV C [(0, x1)] (cX12_endOf_ok l hC T0 eq3) okX12 T0.2.1 (rg_ hC T0.1) km_RX12_338 cv_X12_endOf rfl (by decide) rfl rfl (Nat.le_of_ble_eq_true rfl) dX12_waysOf_15 ?_
    refine g_iconst C (n := 1) dX12_waysOf_18 (by decide) ?_
    refine g_iadd C dX12_waysOf_19 ?_
    cases h
    exact g_iret C dX12_waysOf_20 hr hlk
  · replace h := if_t h c2
    refine g_iconst C (n := 0) dX12_waysOf_9 (by decide) ?_
    refine g_goto C 20 dX12_waysOf_10 rfl ?_
    cases h
    exact g_iret C dX12_waysOf_20 hr hlk
theorem dX12_fillsLive_0 : decode cX12_fillsLive 0 = .ok (.iconst 0, 1) := by decide +kernel
theorem dX12_fillsLive_1 : decode cX12_fillsLive 1 = .ok (.istore_n 1, 1) := by decide +kernel
theorem dX12_fillsLive_2 : decode cX12_fillsLive 2 = .ok (.iload_n 1, 1) := by decide +kernel
theorem dX12_fillsLive_3 : decode cX12_fillsLive 3 = .ok (.bipush 8, 2) := by decide +kernel
theorem dX12_fillsLive_5 : decode cX12_fillsLive 5 = .ok (.if_icmp .ge 16, 3) := by decide +kernel
theorem dX12_fillsLive_8 : decode cX12_fillsLive 8 = .ok (.aload_n 0, 1) := by decide +kernel
theorem dX12_fillsLive_9 : decode cX12_fillsLive 9 = .ok (.getfield 103, 3) := by decide +kernel
theorem dX12_fillsLive_12 : decode cX12_fillsLive 12 = .ok (.iload_n 1, 1) := by decide +kernel
theorem dX12_fillsLive_13 : decode cX12_fillsLive 13 = .ok (.iconst 0, 1) := by decide +kernel
theorem dX12_fillsLive_14 : decode cX12_fillsLive 14 = .ok (.iastore, 1) := by decide +kernel
theorem dX12_fillsLive_15 : decode cX12_fillsLive 15 = .ok (.iinc 1 1, 3) := by decide +kernel
theorem dX12_fillsLive_18 : decode cX12_fillsLive 18 = .ok (.goto (-16), 3) := by decide +kernel
theorem dX12_fillsLive_21 : decode cX12_fillsLive 21 = .ok (.iconst 1, 1) := by decide +kernel
theorem dX12_fillsLive_22 : decode cX12_fillsLive 22 = .ok (.istore_n 1, 1) := by decide +kernel
theorem dX12_fillsLive_23 : decode cX12_fillsLive 23 = .ok (.iload_n 1, 1) := by decide +kernel
theorem dX12_fillsLive_24 : decode cX12_fillsLive 24 = .ok (.ifCond .eq 94, 3) := by decide +kernel
theorem dX12_fillsLive_27 : decode cX12_fillsLive 27 = .ok (.iconst 0, 1) := by decide +kernel
theorem dX12_fillsLive_28 : decode cX12_fillsLive 28 = .ok (.istore_n 1, 1) := by decide +kernel
theorem dX12_fillsLive_29 : decode cX12_fillsLive 29 = .ok (.iconst 0, 1) := by decide +kernel
theorem dX12_fillsLive_30 : decode cX12_fillsLive 30 = .ok (.istore_n 2, 1) := by decide +kernel
theorem dX12_fillsLive_31 : decode cX12_fillsLive 31 = .ok (.iload_n 2, 1) := by decide +kernel
theorem dX12_fillsLive_32 : decode cX12_fillsLive 32 = .ok (.aload_n 0, 1) := by decide +kernel
theorem dX12_fillsLive_33 : decode cX12_fillsLive 33 = .ok (.getfield 43, 3) := by decide +kernel
theorem dX12_fillsLive_36 : decode cX12_fillsLive 36 = .ok (.aload_n 0, 1) := by decide +kernel
theorem dX12_fillsLive_37 : decode cX12_fillsLive 37 = .ok (.getfield 272, 3) := by decide +kernel
theorem dX12_fillsLive_40 : decode cX12_fillsLive 40 = .ok (.iaload, 1) := by decide +kernel
theorem dX12_fillsLive_41 : decode cX12_fillsLive 41 = .ok (.if_icmp .ge 74, 3) := by decide +kernel
theorem dX12_fillsLive_44 : decode cX12_fillsLive 44 = .ok (.iconst 0, 1) := by decide +kernel
theorem dX12_fillsLive_45 : decode cX12_fillsLive 45 = .ok (.istore_n 3, 1) := by decide +kernel
theorem dX12_fillsLive_46 : decode cX12_fillsLive 46 = .ok (.iconst 0, 1) := by decide +kernel
theorem dX12_fillsLive_47 : decode cX12_fillsLive 47 = .ok (.istore 4, 2) := by decide +kernel
theorem dX12_fillsLive_49 : decode cX12_fillsLive 49 = .ok (.iload 4, 2) := by decide +kernel
theorem dX12_fillsLive_51 : decode cX12_fillsLive 51 = .ok (.aload_n 0, 1) := by decide +kernel
theorem dX12_fillsLive_52 : decode cX12_fillsLive 52 = .ok (.iload_n 2, 1) := by decide +kernel
theorem dX12_fillsLive_53 : decode cX12_fillsLive 53 = .ok (.invokevirtual 393, 3) := by decide +kernel
theorem dX12_fillsLive_56 : decode cX12_fillsLive 56 = .ok (.if_icmp .ge 24, 3) := by decide +kernel
theorem dX12_fillsLive_59 : decode cX12_fillsLive 59 = .ok (.iload_n 3, 1) := by decide +kernel
theorem dX12_fillsLive_60 : decode cX12_fillsLive 60 = .ok (.aload_n 0, 1) := by decide +kernel
theorem dX12_fillsLive_61 : decode cX12_fillsLive 61 = .ok (.getfield 103, 3) := by decide +kernel
theorem dX12_fillsLive_64 : decode cX12_fillsLive 64 = .ok (.aload_n 0, 1) := by decide +kernel
theorem dX12_fillsLive_65 : decode cX12_fillsLive 65 = .ok (.iload_n 2, 1) := by decide +kernel
theorem dX12_fillsLive_66 : decode cX12_fillsLive 66 = .ok (.iload 4, 2) := by decide +kernel
theorem dX12_fillsLive_68 : decode cX12_fillsLive 68 = .ok (.invokevirtual 378, 3) := by decide +kernel
theorem dX12_fillsLive_71 : decode cX12_fillsLive 71 = .ok (.iaload, 1) := by decide +kernel
theorem dX12_fillsLive_72 : decode cX12_fillsLive 72 = .ok (.ior, 1) := by decide +kernel
theorem dX12_fillsLive_73 : decode cX12_fillsLive 73 = .ok (.istore_n 3, 1) := by decide +kernel
theorem dX12_fillsLive_74 : decode cX12_fillsLive 74 = .ok (.iinc 4 1, 3) := by decide +kernel
theorem dX12_fillsLive_77 : decode cX12_fillsLive 77 = .ok (.goto (-28), 3) := by decide +kernel
theorem dX12_fillsLive_80 : decode cX12_fillsLive 80 = .ok (.aload_n 0, 1) := by decide +kernel
theorem dX12_fillsLive_81 : decode cX12_fillsLive 81 = .ok (.iload_n 2, 1) := by decide +kernel
theorem dX12_fillsLive_82 : decode cX12_fillsLive 82 = .ok (.iload_n 3, 1) := by decide +kernel
theorem dX12_fillsLive_83 : decode cX12_fillsLive 83 = .ok (.invokevirtual 396, 3) := by decide +kernel
theorem dX12_fillsLive_86 : decode cX12_fillsLive 86 = .ok (.istore 4, 2) := by decide +kernel
theorem dX12_fillsLive_88 : decode cX12_fillsLive 88 = .ok (.iload 4, 2) := by decide +kernel
theorem dX12_fillsLive_90 : decode cX12_fillsLive 90 = .ok (.aload_n 0, 1) := by decide +kernel
theorem dX12_fillsLive_91 : decode cX12_fillsLive 91 = .ok (.getfield 103, 3) := by decide +kernel
theorem dX12_fillsLive_94 : decode cX12_fillsLive 94 = .ok (.iload_n 2, 1) := by decide +kernel
theorem dX12_fillsLive_95 : decode cX12_fillsLive 95 = .ok (.iaload, 1) := by decide +kernel
theorem dX12_fillsLive_96 : decode cX12_fillsLive 96 = .ok (.if_icmp .eq 5, 3) := by decide +kernel
theorem dX12_fillsLive_99 : decode cX12_fillsLive 99 = .ok (.iconst 1, 1) := by decide +kernel
theorem dX12_fillsLive_100 : decode cX12_fillsLive 100 = .ok (.istore_n 1, 1) := by decide +kernel
theorem dX12_fillsLive_101 : decode cX12_fillsLive 101 = .ok (.aload_n 0, 1) := by decide +kernel
theorem dX12_fillsLive_102 : decode cX12_fillsLive 102 = .ok (.getfield 103, 3) := by decide +kernel
theorem dX12_fillsLive_105 : decode cX12_fillsLive 105 = .ok (.iload_n 2, 1) := by decide +kernel
theorem dX12_fillsLive_106 : decode cX12_fillsLive 106 = .ok (.iload 4, 2) := by decide +kernel
theorem dX12_fillsLive_108 : decode cX12_fillsLive 108 = .ok (.iastore, 1) := by decide +kernel
theorem dX12_fillsLive_109 : decode cX12_fillsLive 109 = .ok (.iinc 2 1, 3) := by decide +kernel
theorem dX12_fillsLive_112 : decode cX12_fillsLive 112 = .ok (.goto (-81), 3) := by decide +kernel
theorem dX12_fillsLive_115 : decode cX12_fillsLive 115 = .ok (.goto (-92), 3) := by decide +kernel
theorem dX12_fillsLive_118 : decode cX12_fillsLive 118 = .ok (.return_, 1) := by decide +kernel
def fX12_fillsLive_101 (k23 : Int → Int → V_ → Option (Int × V_)) (k31 : Int → Int → Int → V_ → Option (Int × V_)) (x0 x1 x2 x4 : Int) (v : V_) : Option (Int × V_) :=
  ck_ (0 ≤ x2 ∧ x2 < 8) (
  lt_ (up_ v (x0 + 29) x2 x4) fun v14 =>
  lt_ (wr_ (x2 + 1)) fun y15 =>
  k31 x0 x1 y15 v14)
def fX12_fillsLive_49 (k23 : Int → Int → V_ → Option (Int × V_)) (k31 : Int → Int → Int → V_ → Option (Int × V_)) : Nat → Int → Int → Int → Int → Int → V_ → Option (Int × V_)
  | 0, _, _, _, _, _, _ => none
  | n + 1, x0, x1, x2, x3, x4, v =>
    bd_ (fX12_waysOf x0 x2 v) fun q6 =>
    if q6.1 ≤ x4 then (
      bd_ (fX12_liveAbove x0 x2 x3 q6.2) fun q8 =>
      ck_ (0 ≤ x2 ∧ x2 < 8) (
      if q8.1 = (q8.2 (x0 + 29) x2) then (
        fX12_fillsLive_101 k23 k31 x0 x1 x2 q8.1 q8.2)
      else (
        fX12_fillsLive_101 k23 k31 x0 1 x2 q8.1 q8.2)))
    else (
      bd_ (fX12_wayTo x0 x2 x4 q6.2) fun q17 =>
      ck_ (0 ≤ q17.1 ∧ q17.1 < 8) (
      lt_ (bO_ x3 (q17.2 (x0 + 29) q17.1)) fun y19 =>
      lt_ (wr_ (x4 + 1)) fun y20 =>
      (fX12_fillsLive_49 k23 k31 n) x0 x1 x2 y19 y20 q17.2))
def fX12_fillsLive_31 (k23 : Int → Int → V_ → Option (Int × V_)) : Nat → Int → Int → Int → V_ → Option (Int × V_)
  | 0, _, _, _, _ => none
  | n + 1, x0, x1, x2, v =>
    ck_ (0 ≤ v x0 18 ∧ v x0 18 < 2) (
    if (v (x0 + 9) (v x0 18)) ≤ x2 then (
      k23 x0 x1 v)
    else (
      fX12_fillsLive_49 k23 (fX12_fillsLive_31 k23 n) fu_ x0 x1 x2 0 0 v))
def fX12_fillsLive_23 : Nat → Int → Int → V_ → Option (Int × V_)
  | 0, _, _, _ => none
  | n + 1, x0, x1, v =>
    if x1 = 0 then (
      some (0, v))
    else (
      fX12_fillsLive_31 (fX12_fillsLive_23 n) fu_ x0 0 0 v)
def fX12_fillsLive_2 : Nat → Int → Int → V_ → Option (Int × V_)
  | 0, _, _, _ => none
  | n + 1, x0, x1, v =>
    if 8 ≤ x1 then (
      fX12_fillsLive_23 fu_ x0 1 v)
    else (
      ck_ (0 ≤ x1 ∧ x1 < 8) (
      lt_ (up_ v (x0 + 29) x1 0) fun v23 =>
      lt_ (wr_ (x1 + 1)) fun y24 =>
      (fX12_fillsLive_2 n) x0 y24 v23))
def fX12_fillsLive (x0 : Int) (v : V_) : Option (Int × V_) :=
  fX12_fillsLive_2 fu_ x0 0 v
section
variable {E : En_} {p : Program} {l : Launch} {e : Env} {s : State} {m : MethodId} {args : Array Value} {below : List Frame} {meth : Method} {c : Code} {sz : Int}
theorem tX12_fillsLive_101 (C : MC_ E p s m c cX12_fillsLive 5 RX12) (hr : meth.sig.returnType = (none : Option FieldType)) (hlk : meth.locks = false) (hC : Cl_ E.2.2.2.2.2 sz) {out : Int × V_} (k23 : Int → Int → V_ → Option (Int × V_)) (H_23 : ∀ (x0 x1 : Int) (v : V_), (E.2.2.2.2.2 x0 ∧ ty_ x0 = 12 ∧ ln_ x0 = 0) → k23 x0 x1 v = some out → G_ E p l e (rm_ 2 48) s m args below meth c 5 sz (Q_ E below args s sz sz 9 out.1 out.2) 23 [(0, (2, x0)), (1, (0, x1))] [] v sz) (k31 : Int → Int → Int → V_ → Option (Int × V_)) (H_31 : ∀ (x0 x1 x2 : Int) (v : V_), (E.2.2.2.2.2 x0 ∧ ty_ x0 = 12 ∧ ln_ x0 = 0) → k31 x0 x1 x2 v = some out → G_ E p l e (rm_ 2 48) s m args below meth c 5 sz (Q_ E below args s sz sz 9 out.1 out.2) 31 [(0, (2, x0)), (1, (0, x1)), (2, (0, x2))] [] v sz) (x0 x1 x2 x4 : Int) (v : V_) (T0 : (E.2.2.2.2.2 x0 ∧ ty_ x0 = 12 ∧ ln_ x0 = 0)) (h : fX12_fillsLive_101 k23 k31 x0 x1 x2 x4 v = some out) : G_ E p l e (rm_ 2 48) s m args below meth c 5 sz (Q_ E below args s sz sz 9 out.1 out.2) 101 [(0, (2, x0)), (1, (0, x1)), (2, (0, x2)), (4, (0, x4))] [] v sz := by
  rw [fX12_fillsLive_101] at h
  refine g_aload_n C (f := 0) dX12_fillsLive_101 0 rfl ?_
  have F12 := fX12_47 hC T0.1 T0.2.1
  refine g_getR C (k := 47) (o := 29) okX12 (by decide) kf_RX12_103 dX12_fillsLive_102 hC T0.1 T0.2.1 rfl rfl ?_
  refine g_iload_n C (f := 2) dX12_fillsLive_105 2 rfl ?_
  refine g_iload C (i := 4) dX12_fillsLive_106 3 rfl ?_
  obtain ⟨c13, h⟩ := ck_e h
  obtain ⟨v14, ev14, h⟩ := lt_e h
  refine g_iast C 8 dX12_fillsLive_108 (rg_ hC F12.1) F12.2.1 F12.2.2 c13 v14 ev14 ?_
  obtain ⟨y15, ey15, h⟩ := lt_e h
  refine g_iincx C (ls' := [(2, (0, y15)), (0, (2, x0)), (1, (0, x1)), (4, (0, x4))]) ey15 dX12_fillsLive_109 2 rfl (by decide) (by decide) rfl ?_
  refine g_goto C 31 dX12_fillsLive_112 rfl ?_
  refine g_sub [1, 2, 0] rfl rfl ?_
  exact H_31 _ _ _ _ T0 h
theorem tX12_fillsLive_49 (C : MC_ E p s m c cX12_fillsLive 5 RX12) (hr : meth.sig.returnType = (none : Option FieldType)) (hlk : meth.locks = false) (hC : Cl_ E.2.2.2.2.2 sz) {out : Int × V_} (k23 : Int → Int → V_ → Option (Int × V_)) (H_23 : ∀ (x0 x1 : Int) (v : V_), (E.2.2.2.2.2 x0 ∧ ty_ x0 = 12 ∧ ln_ x0 = 0) → k23 x0 x1 v = some out → G_ E p l e (rm_ 2 48) s m args below meth c 5 sz (Q_ E below args s sz sz 9 out.1 out.2) 23 [(0, (2, x0)), (1, (0, x1))] [] v sz) (k31 : Int → Int → Int → V_ → Option (Int × V_)) (H_31 : ∀ (x0 x1 x2 : Int) (v : V_), (E.2.2.2.2.2 x0 ∧ ty_ x0 = 12 ∧ ln_ x0 = 0) → k31 x0 x1 x2 v = some out → G_ E p l e (rm_ 2 48) s m args below meth c 5 sz (Q_ E below args s sz sz 9 out.1 out.2) 31 [(0, (2, x0)), (1, (0, x1)), (2, (0, x2))] [] v sz) : ∀ (n : Nat) (x0 x1 x2 x3 x4 : Int) (v : V_), (E.2.2.2.2.2 x0 ∧ ty_ x0 = 12 ∧ ln_ x0 = 0) → fX12_fillsLive_49 k23 k31 n x0 x1 x2 x3 x4 v = some out → G_ E p l e (rm_ 2 48) s m args below meth c 5 sz (Q_ E below args s sz sz 9 out.1 out.2) 49 [(0, (2, x0)), (1, (0, x1)), (2, (0, x2)), (3, (0, x3)), (4, (0, x4))] [] v sz := by
  intro n
  induction n with
  | zero =>
    intro x0 x1 x2 x3 x4 v T0 h
    cases h
  | succ n H_49 =>
    intro x0 x1 x2 x3 x4 v T0 h
    rw [fX12_fillsLive_49] at h
    refine g_iload C (i := 4) dX12_fillsLive_49 4 rfl ?_
    refine g_aload_n C (f := 0) dX12_fillsLive_51 0 rfl ?_
    refine g_iload_n C (f := 2) dX12_fillsLive_52 2 rfl ?_
    obtain ⟨q6, eq6, h⟩ := bd_e h
    refine g_cV C [(0, x2)] (cX12_waysOf_ok l hC T0 eq6) okX12 T0.2.1 (rg_ hC T0.1) km_RX12_393 cv_X12_waysOf rfl (by decide) rfl rfl (Nat.le_of_ble_eq_true rfl) dX12_fillsLive_53 ?_
    refine g_icmp_ge C 80 dX12_fillsLive_56 rfl (fun c7 => ?_) (fun c7 => ?_)
    · replace h := if_t h c7
      refine g_aload_n C (f := 0) dX12_fillsLive_80 0 rfl ?_
      refine g_iload_n C (f := 2) dX12_fillsLive_81 2 rfl ?_
      refine g_iload_n C (f := 3) dX12_fillsLive_82 3 rfl ?_
      obtain ⟨q8, eq8, h⟩ := bd_e h
      refine g_cV C [(0, x2), (0, x3)] (cX12_liveAbove_ok l hC T0 eq8) okX12 T0.2.1 (rg_ hC T0.1) km_RX12_396 cv_X12_liveAbove rfl (by decide) rfl rfl (Nat.le_of_ble_eq_true rfl) dX12_fillsLive_83 ?_
      refine g_istore C (i := 4) (ls' := [(4, (0, q8.1)), (0, (2, x0)), (1, (0, x1)), (2, (0, x2)), (3, (0, x3))]) dX12_fillsLive_86 (by decide) rfl ?_
      refine g_iload C (i := 4) dX12_fillsLive_88 0 rfl ?_
      refine g_aload_n C (f := 0) dX12_fillsLive_90 1 rfl ?_
      have F9 := fX12_47 hC T0.1 T0.2.1
      refine g_getR C (k := 47) (o := 29) okX12 (by decide) kf_RX12_103 dX12_fillsLive_91 hC T0.1 T0.2.1 rfl rfl ?_
      refine g_iload_n C (f := 2) dX12_fillsLive_94 3 rfl ?_
      obtain ⟨c10, h⟩ := ck_e h
      refine g_iald C 8 dX12_fillsLive_95 (rg_ hC F9.1) F9.2.1 F9.2.2 c10 ?_
      refine g_icmp_eq C 101 dX12_fillsLive_96 rfl (fun c11 => ?_) (fun c11 => ?_)
      · replace h := if_t h c11
        refine g_sub [1, 2, 3, 0] rfl rfl ?_
        exact tX12_fillsLive_101 C hr hlk hC _ H_23 _ H_31 _ _ _ _ _ T0 h
      · replace h := if_f h c11
        refine g_iconst C (n := 1) dX12_fillsLive_99 (by decide) ?_
        refine g_istore_n C (f := 1) (ls' := [(1, (0, 1)), (4, (0, q8.1)), (0, (2, x0)), (2, (0, x2)), (3, (0, x3))]) dX12_fillsLive_100 (by decide) rfl ?_
        refine g_sub [2, 0, 3, 1] rfl rfl ?_
        exact tX12_fillsLive_101 C hr hlk hC _ H_23 _ H_31 _ _ _ _ _ T0 h
    · replace h := if_f h c7
      refine g_iload_n C (f := 3) dX12_fillsLive_59 3 rfl ?_
      refine g_aload_n C (f := 0) dX12_fillsLive_60 0 rfl ?_
      have F16 := fX12_47 hC T0.1 T0.2.1
      refine g_getR C (k := 47) (o := 29) okX12 (by decide) kf_RX12_103 dX12_fillsLive_61 hC T0.1 T0.2.1 rfl rfl ?_
      refine g_aload_n C (f := 0) dX12_fillsLive_64 0 rfl ?_
      refine g_iload_n C (f := 2) dX12_fillsLive_65 2 rfl ?_
      refine g_iload C (i := 4) dX12_fillsLive_66 4 rfl ?_
      obtain ⟨q17, eq17, h⟩ := bd_e h
      refine g_cV C [(0, x2), (0, x4)] (cX12_wayTo_ok l hC T0 eq17) okX12 T0.2.1 (rg_ hC T0.1) km_RX12_378 cv_X12_wayTo rfl (by decide) rfl rfl (Nat.le_of_ble_eq_true rfl) dX12_fillsLive_68 ?_
      obtain ⟨c18, h⟩ := ck_e h
      refine g_iald C 8 dX12_fillsLive_71 (rg_ hC F16.1) F16.2.1 F16.2.2 c18 ?_
      refine g_ior C dX12_fillsLive_72 ?_
      obtain ⟨y19, ey19, h⟩ := lt_e h
      refine g_set C ey19 ?_
      refine g_istore_n C (f := 3) (ls' := [(3, (0, y19)), (0, (2, x0)), (1, (0, x1)), (2, (0, x2)), (4, (0, x4))]) dX12_fillsLive_73 (by decide) rfl ?_
      obtain ⟨y20, ey20, h⟩ := lt_e h
      refine g_iincx C (ls' := [(4, (0, y20)), (3, (0, y19)), (0, (2, x0)), (1, (0, x1)), (2, (0, x2))]) ey20 dX12_fillsLive_74 4 rfl (by decide) (by decide) rfl ?_
      refine g_goto C 49 dX12_fillsLive_77 rfl ?_
      refine g_sub [2, 3, 4, 1, 0] rfl rfl ?_
      exact H_49 _ _ _ _ _ _ T0 h
theorem tX12_fillsLive_31 (C : MC_ E p s m c cX12_fillsLive 5 RX12) (hr : meth.sig.returnType = (none : Option FieldType)) (hlk : meth.locks = false) (hC : Cl_ E.2.2.2.2.2 sz) {out : Int × V_} (k23 : Int → Int → V_ → Option (Int × V_)) (H_23 : ∀ (x0 x1 : Int) (v : V_), (E.2.2.2.2.2 x0 ∧ ty_ x0 = 12 ∧ ln_ x0 = 0) → k23 x0 x1 v = some out → G_ E p l e (rm_ 2 48) s m args below meth c 5 sz (Q_ E below args s sz sz 9 out.1 out.2) 23 [(0, (2, x0)), (1, (0, x1))] [] v sz) : ∀ (n : Nat) (x0 x1 x2 : Int) (v : V_), (E.2.2.2.2.2 x0 ∧ ty_ x0 = 12 ∧ ln_ x0 = 0) → fX12_fillsLive_31 k23 n x0 x1 x2 v = some out → G_ E p l e (rm_ 2 48) s m args below meth c 5 sz (Q_ E below args s sz sz 9 out.1 out.2) 31 [(0, (2, x0)), (1, (0, x1)), (2, (0, x2))] [] v sz := by
  intro n
  induction n with
  | zero =>
    intro x0 x1 x2 v T0 h
    cases h
  | succ n H_31 =>
    intro x0 x1 x2 v T0 h
    rw [fX12_fillsLive_31] at h
    refine g_iload_n C (f := 2) dX12_fillsLive_31 2 rfl ?_
    refine g_aload_n C (f := 0) dX12_fillsLive_32 0 rfl ?_
    have F3 := fX12_22 hC T0.1 T0.2.1
    refine g_getR C (k := 22) (o := 9) okX12 (by decide) kf_RX12_43 dX12_fillsLive_33 hC T0.1 T0.2.1 rfl rfl ?_
    refine g_aload_n C (f := 0) dX12_fillsLive_36 0 rfl ?_
    refine g_getf C (k := 18) (kd := 0) okX12 (by decide) kf_RX12_272 dX12_fillsLive_37 (rg_ hC T0.1) T0.2.1 rfl ?_
    obtain ⟨c4, h⟩ := ck_e h
    refine g_iald C 2 dX12_fillsLive_40 (rg_ hC F3.1) F3.2.1 F3.2.2 c4 ?_
    refine g_icmp_ge C 115 dX12_fillsLive_41 rfl (fun c5 => ?_) (fun c5 => ?_)
    · replace h := if_t h c5
      refine g_goto C 23 dX12_fillsLive_115 rfl ?_
      refine g_sub [0, 1] rfl rfl ?_
      exact H_23 _ _ _ T0 h
    · replace h := if_f h c5
      refine g_iconst C (n := 0) dX12_fillsLive_44 (by decide) ?_
      refine g_istore_n C (f := 3) (ls' := [(3, (0, 0)), (0, (2, x0)), (1, (0, x1)), (2, (0, x2))]) dX12_fillsLive_45 (by decide) rfl ?_
      refine g_iconst C (n := 0) dX12_fillsLive_46 (by decide) ?_
      refine g_istore C (i := 4) (ls' := [(4, (0, 0)), (3, (0, 0)), (0, (2, x0)), (1, (0, x1)), (2, (0, x2))]) dX12_fillsLive_47 (by decide) rfl ?_
      refine g_sub [2, 3, 4, 1, 0] rfl rfl ?_
      exact tX12_fillsLive_49 C hr hlk hC _ H_23 _ H_31 _ _ _ _ _ _ _ T0 h
theorem tX12_fillsLive_23 (C : MC_ E p s m c cX12_fillsLive 5 RX12) (hr : meth.sig.returnType = (none : Option FieldType)) (hlk : meth.locks = false) (hC : Cl_ E.2.2.2.2.2 sz) {out : Int × V_} : ∀ (n : Nat) (x0 x1 : Int) (v : V_), (E.2.2.2.2.2 x0 ∧ ty_ x0 = 12 ∧ ln_ x0 = 0) → fX12_fillsLive_23 n x0 x1 v = some out → G_ E p l e (rm_ 2 48) s m args below meth c 5 sz (Q_ E below args s sz sz 9 out.1 out.2) 23 [(0, (2, x0)), (1, (0, x1))] [] v sz := by
  intro n
  induction n with
  | zero =>
    intro x0 x1 v T0 h
    cases h
  | succ n H_23 =>
    intro x0 x1 v T0 h
    rw [fX12_fillsLive_23] at h
    refine g_iload_n C (f := 1) dX12_fillsLive_23 1 rfl ?_
    refine g_if_eq C 118 dX12_fillsLive_24 rfl (fun c2 => ?_) (fun c2 => ?_)
    · replace h := if_t h c2
      cases h
      exact g_vret C dX12_fillsLive_118 hr hlk
    · replace h := if_f h c2
      refine g_iconst C (n := 0) dX12_fillsLive_27 (by decide) ?_
      refine g_istore_n C (f := 1) (ls' := [(1, (0, 0)), (0, (2, x0))]) dX12_fillsLive_28 (by decide) rfl ?_
      refine g_iconst C (n := 0) dX12_fillsLive_29 (by decide) ?_
      refine g_istore_n C (f := 2) (ls' := [(2, (0, 0)), (1, (0, 0)), (0, (2, x0))]) dX12_fillsLive_30 (by decide) rfl ?_
      refine g_sub [2, 1, 0] rfl rfl ?_
      exact tX12_fillsLive_31 C hr hlk hC _ H_23 _ _ _ _ _ T0 h
theorem tX12_fillsLive_2 (C : MC_ E p s m c cX12_fillsLive 5 RX12) (hr : meth.sig.returnType = (none : Option FieldType)) (hlk : meth.locks = false) (hC : Cl_ E.2.2.2.2.2 sz) {out : Int × V_} : ∀ (n : Nat) (x0 x1 : Int) (v : V_), (E.2.2.2.2.2 x0 ∧ ty_ x0 = 12 ∧ ln_ x0 = 0) → fX12_fillsLive_2 n x0 x1 v = some out → G_ E p l e (rm_ 2 48) s m args below meth c 5 sz (Q_ E below args s sz sz 9 out.1 out.2) 2 [(0, (2, x0)), (1, (0, x1))] [] v sz := by
  intro n
  induction n with
  | zero =>
    intro x0 x1 v T0 h
    cases h
  | succ n H_2 =>
    intro x0 x1 v T0 h
    rw [fX12_fillsLive_2] at h
    refine g_iload_n C (f := 1) dX12_fillsLive_2 1 rfl ?_
    refine g_bipush C (n := 8) dX12_fillsLive_3 (by decide) ?_
    refine g_icmp_ge C 21 dX12_fillsLive_5 rfl (fun c1 => ?_) (fun c1 => ?_)
    · replace h := if_t h c1
      refine g_iconst C (n := 1) dX12_fillsLive_21 (by decide) ?_
      refine g_istore_n C (f := 1) (ls' := [(1, (0, 1)), (0, (2, x0))]) dX12_fillsLive_22 (by decide) rfl ?_
      refine g_sub [1, 0] rfl rfl ?_
      exact tX12_fillsLive_23 C hr hlk hC _ _ _ _ T0 h
    · replace h := if_f h c1
      refine g_aload_n C (f := 0) dX12_fillsLive_8 0 rfl ?_
      have F21 := fX12_47 hC T0.1 T0.2.1
      refine g_getR C (k := 47) (o := 29) okX12 (by decide) kf_RX12_103 dX12_fillsLive_9 hC T0.1 T0.2.1 rfl rfl ?_
      refine g_iload_n C (f := 1) dX12_fillsLive_12 1 rfl ?_
      refine g_iconst C (n := 0) dX12_fillsLive_13 (by decide) ?_
      obtain ⟨c22, h⟩ := ck_e h
      obtain ⟨v23, ev23, h⟩ := lt_e h
      refine g_iast C 8 dX12_fillsLive_14 (rg_ hC F21.1) F21.2.1 F21.2.2 c22 v23 ev23 ?_
      obtain ⟨y24, ey24, h⟩ := lt_e h
      refine g_iincx C (ls' := [(1, (0, y24)), (0, (2, x0))]) ey24 dX12_fillsLive_15 1 rfl (by decide) (by decide) rfl ?_
      refine g_goto C 2 dX12_fillsLive_18 rfl ?_
      refine g_sub [1, 0] rfl rfl ?_
      exact H_2 _ _ _ T0 h
end
theorem cX12_fillsLive_ok (l : Launch) {E : En_} {sz : Int} (hC : Cl_ E.2.2.2.2.2 sz) {x0 : Int} {v : V_} {out : Int × V_} (T0 : (E.2.2.2.2.2 x0 ∧ ty_ x0 = 12 ∧ ln_ x0 = 0)) (h : fX12_fillsLive x0 v = some out) : Met l yX12_fillsLive [.code yX12_fillsLive cX12_fillsLive 5 (none : Option FieldType)] (rm_ 2 48) (Pc_ E sz v [(2, x0)]) (Qc_ E sz 9 out.1 out.2) 0 0 (fun q => E.1 < q) := by
  refine met_G0 RX12 (by decide +kernel) rfl (Nat.le_of_ble_eq_true rfl) ?_
  intro p e s m args below meth c C hr hlk
  rw [fX12_fillsLive] at h
  refine g_iconst C (n := 0) dX12_fillsLive_0 (by decide) ?_
  refine g_istore_n C (f := 1) (ls' := [(1, (0, 0)), (0, (2, x0))]) dX12_fillsLive_1 (by decide) rfl ?_
  refine g_sub [1, 0] rfl rfl ?_
  exact tX12_fillsLive_2 C hr hlk hC _ _ _ _ T0 h
theorem dX12_more_0 : decode cX12_more 0 = .ok (.iload_n 0, 1) := by decide +kernel
theorem dX12_more_1 : decode cX12_more 1 = .ok (.iload_n 1, 1) := by decide +kernel
theorem dX12_more_2 : decode cX12_more 2 = .ok (.if_icmp .le 7, 3) := by decide +kernel
theorem dX12_more_5 : decode cX12_more 5 = .ok (.iload_n 0, 1) := by decide +kernel
theorem dX12_more_6 : decode cX12_more 6 = .ok (.goto 4, 3) := by decide +kernel
theorem dX12_more_9 : decode cX12_more 9 = .ok (.iload_n 1, 1) := by decide +kernel
theorem dX12_more_10 : decode cX12_more 10 = .ok (.ireturn, 1) := by decide +kernel
def fX12_more (x0 x1 : Int) (v : V_) : Option (Int × V_) :=
  if x0 ≤ x1 then (
    some (x1, v))
  else (
    some (x0, v))
theorem cX12_more_ok (l : Launch) {E : En_} {sz : Int} (hC : Cl_ E.2.2.2.2.2 sz) {x0 x1 : Int} {v : V_} {out : Int × V_} (h : fX12_more x0 x1 v = some out) : Met l yX12_more [.code yX12_more cX12_more 2 (some FieldType.int)] (rm_ 0 0) (Pc_ E sz v [(0, x0), (0, x1)]) (Qc_ E sz 0 out.1 out.2) 0 0 (fun q => E.1 < q) := by
  refine met_G0 RX12 (by decide +kernel) rfl (Nat.le_of_ble_eq_true rfl) ?_
  intro p e s m args below meth c C hr hlk
  rw [fX12_more] at h
  refine g_iload_n C (f := 0) dX12_more_0 0 rfl ?_
  refine g_iload_n C (f := 1) dX12_more_1 1 rfl ?_
  refine g_icmp_le C 9 dX12_more_2 rfl (fun c1 => ?_) (fun c1 => ?_)
  · replace h := if_t h c1
    refine g_iload_n C (f := 1) dX12_more_9 1 rfl ?_
    cases h
    exact g_iret C dX12_more_10 hr hlk
  · replace h := if_f h c1
    refine g_iload_n C (f := 0) dX12_more_5 0 rfl ?_
    refine g_goto C 10 dX12_more_6 rfl ?_
    cases h
    exact g_iret C dX12_more_10 hr hlk
theorem dX12_doesRead_0 : decode cX12_doesRead 0 = .ok (.iload_n 2, 1) := by decide +kernel
theorem dX12_doesRead_1 : decode cX12_doesRead 1 = .ok (.ifCond .lt 27, 3) := by decide +kernel
theorem dX12_doesRead_4 : decode cX12_doesRead 4 = .ok (.aload_n 0, 1) := by decide +kernel
theorem dX12_doesRead_5 : decode cX12_doesRead 5 = .ok (.getfield 139, 3) := by decide +kernel
theorem dX12_doesRead_8 : decode cX12_doesRead 8 = .ok (.iload_n 1, 1) := by decide +kernel
theorem dX12_doesRead_9 : decode cX12_doesRead 9 = .ok (.iaload, 1) := by decide +kernel
theorem dX12_doesRead_10 : decode cX12_doesRead 10 = .ok (.iload_n 2, 1) := by decide +kernel
theorem dX12_doesRead_11 : decode cX12_doesRead 11 = .ok (.if_icmp .eq 13, 3) := by decide +kernel
theorem dX12_doesRead_14 : decode cX12_doesRead 14 = .ok (.aload_n 0, 1) := by decide +kernel
theorem dX12_doesRead_15 : decode cX12_doesRead 15 = .ok (.getfield 142, 3) := by decide +kernel
theorem dX12_doesRead_18 : decode cX12_doesRead 18 = .ok (.iload_n 1, 1) := by decide +kernel
theorem dX12_doesRead_19 : decode cX12_doesRead 19 = .ok (.iaload, 1) := by decide +kernel
theorem dX12_doesRead_20 : decode cX12_doesRead 20 = .ok (.iload_n 2, 1) := by decide +kernel
theorem dX12_doesRead_21 : decode cX12_doesRead 21 = .ok (.if_icmp .ne 7, 3) := by decide +kernel
theorem dX12_doesRead_24 : decode cX12_doesRead 24 = .ok (.iconst 1, 1) := by decide +kernel
theorem dX12_doesRead_25 : decode cX12_doesRead 25 = .ok (.goto 4, 3) := by decide +kernel
theorem dX12_doesRead_28 : decode cX12_doesRead 28 = .ok (.iconst 0, 1) := by decide +kernel
theorem dX12_doesRead_29 : decode cX12_doesRead 29 = .ok (.ireturn, 1) := by decide +kernel
def fX12_doesRead (x0 x1 x2 : Int) (v : V_) : Option (Int × V_) :=
  if x2 < 0 then (
    some (0, v))
  else (
    ck_ (0 ≤ x1 ∧ x1 < 272) (
    if (v (x0 + 41) x1) = x2 then (
      some (1, v))
    else (
      ck_ (0 ≤ x1 ∧ x1 < 272) (
      if (v (x0 + 42) x1) = x2 then (
        some (1, v))
      else (
        some (0, v))))))
theorem cX12_doesRead_ok (l : Launch) {E : En_} {sz : Int} (hC : Cl_ E.2.2.2.2.2 sz) {x0 x1 x2 : Int} {v : V_} {out : Int × V_} (T0 : (E.2.2.2.2.2 x0 ∧ ty_ x0 = 12 ∧ ln_ x0 = 0)) (h : fX12_doesRead x0 x1 x2 v = some out) : Met l yX12_doesRead [.code yX12_doesRead cX12_doesRead 3 (some FieldType.boolean)] (rm_ 0 0) (Pc_ E sz v [(2, x0), (0, x1), (0, x2)]) (Qc_ E sz 0 out.1 out.2) 0 0 (fun q => E.1 < q) := by
  refine met_G0 RX12 (by decide +kernel) rfl (Nat.le_of_ble_eq_true rfl) ?_
  intro p e s m args below meth c C hr hlk
  rw [fX12_doesRead] at h
  refine g_iload_n C (f := 2) dX12_doesRead_0 2 rfl ?_
  refine g_if_lt C 28 dX12_doesRead_1 rfl (fun c1 => ?_) (fun c1 => ?_)
  · replace h := if_t h c1
    refine g_iconst C (n := 0) dX12_doesRead_28 (by decide) ?_
    cases h
    exact g_zret C dX12_doesRead_29 hr hlk (Or.inl rfl)
  · replace h := if_f h c1
    refine g_aload_n C (f := 0) dX12_doesRead_4 0 rfl ?_
    have F2 := fX12_60 hC T0.1 T0.2.1
    refine g_getR C (k := 60) (o := 41) okX12 (by decide) kf_RX12_139 dX12_doesRead_5 hC T0.1 T0.2.1 rfl rfl ?_
    refine g_iload_n C (f := 1) dX12_doesRead_8 1 rfl ?_
    obtain ⟨c3, h⟩ := ck_e h
    refine g_iald C 272 dX12_doesRead_9 (rg_ hC F2.1) F2.2.1 F2.2.2 c3 ?_
    refine g_iload_n C (f := 2) dX12_doesRead_10 2 rfl ?_
    refine g_icmp_eq C 24 dX12_doesRead_11 rfl (fun c4 => ?_) (fun c4 => ?_)
    · replace h := if_t h c4
      refine g_iconst C (n := 1) dX12_doesRead_24 (by decide) ?_
      refine g_goto C 29 dX12_doesRead_25 rfl ?_
      cases h
      exact g_zret C dX12_doesRead_29 hr hlk (Or.inr rfl)
    · replace h := if_f h c4
      refine g_aload_n C (f := 0) dX12_doesRead_14 0 rfl ?_
      have F5 := fX12_61 hC T0.1 T0.2.1
      refine g_getR C (k := 61) (o := 42) okX12 (by decide) kf_RX12_142 dX12_doesRead_15 hC T0.1 T0.2.1 rfl rfl ?_
      refine g_iload_n C (f := 1) dX12_doesRead_18 1 rfl ?_
      obtain ⟨c6, h⟩ := ck_e h
      refine g_iald C 272 dX12_doesRead_19 (rg_ hC F5.1) F5.2.1 F5.2.2 c6 ?_
      refine g_iload_n C (f := 2) dX12_doesRead_20 2 rfl ?_
      refine g_icmp_ne C 28 dX12_doesRead_21 rfl (fun c7 => ?_) (fun c7 => ?_)
      · replace h := if_f h c7
        refine g_iconst C (n := 0) dX12_doesRead_28 (by decide) ?_
        cases h
        exact g_zret C dX12_doesRead_29 hr hlk (Or.inl rfl)
      · replace h := if_t h c7
        refine g_iconst C (n := 1) dX12_doesRead_24 (by decide) ?_
        refine g_goto C 29 dX12_doesRead_25 rfl ?_
        cases h
        exact g_zret C dX12_doesRead_29 hr hlk (Or.inr rfl)
theorem dX12_in_0 : decode cX12_in 0 = .ok (.iload_n 0, 1) := by decide +kernel
theorem dX12_in_1 : decode cX12_in 1 = .ok (.iload_n 1, 1) := by decide +kernel
theorem dX12_in_2 : decode cX12_in 2 = .ok (.if_icmp .lt 12, 3) := by decide +kernel
theorem dX12_in_5 : decode cX12_in 5 = .ok (.iload_n 0, 1) := by decide +kernel
theorem dX12_in_6 : decode cX12_in 6 = .ok (.iload_n 2, 1) := by decide +kernel
theorem dX12_in_7 : decode cX12_in 7 = .ok (.if_icmp .gt 7, 3) := by decide +kernel
theorem dX12_in_10 : decode cX12_in 10 = .ok (.iconst 1, 1) := by decide +kernel
theorem dX12_in_11 : decode cX12_in 11 = .ok (.goto 4, 3) := by decide +kernel
theorem dX12_in_14 : decode cX12_in 14 = .ok (.iconst 0, 1) := by decide +kernel
theorem dX12_in_15 : decode cX12_in 15 = .ok (.ireturn, 1) := by decide +kernel
def fX12_in (x0 x1 x2 : Int) (v : V_) : Option (Int × V_) :=
  if x0 < x1 then (
    some (0, v))
  else (
    if x2 < x0 then (
      some (0, v))
    else (
      some (1, v)))
theorem cX12_in_ok (l : Launch) {E : En_} {sz : Int} (hC : Cl_ E.2.2.2.2.2 sz) {x0 x1 x2 : Int} {v : V_} {out : Int × V_} (h : fX12_in x0 x1 x2 v = some out) : Met l yX12_in [.code yX12_in cX12_in 3 (some FieldType.boolean)] (rm_ 0 0) (Pc_ E sz v [(0, x0), (0, x1), (0, x2)]) (Qc_ E sz 0 out.1 out.2) 0 0 (fun q => E.1 < q) := by
  refine met_G0 RX12 (by decide +kernel) rfl (Nat.le_of_ble_eq_true rfl) ?_
  intro p e s m args below meth c C hr hlk
  rw [fX12_in] at h
  refine g_iload_n C (f := 0) dX12_in_0 0 rfl ?_
  refine g_iload_n C (f := 1) dX12_in_1 1 rfl ?_
  refine g_icmp_lt C 14 dX12_in_2 rfl (fun c1 => ?_) (fun c1 => ?_)
  · replace h := if_t h c1
    refine g_iconst C (n := 0) dX12_in_14 (by decide) ?_
    cases h
    exact g_zret C dX12_in_15 hr hlk (Or.inl rfl)
  · replace h := if_f h c1
    refine g_iload_n C (f := 0) dX12_in_5 0 rfl ?_
    refine g_iload_n C (f := 2) dX12_in_6 2 rfl ?_
    refine g_icmp_gt C 14 dX12_in_7 rfl (fun c2 => ?_) (fun c2 => ?_)
    · replace h := if_t h c2
      refine g_iconst C (n := 0) dX12_in_14 (by decide) ?_
      cases h
      exact g_zret C dX12_in_15 hr hlk (Or.inl rfl)
    · replace h := if_f h c2
      refine g_iconst C (n := 1) dX12_in_10 (by decide) ?_
      refine g_goto C 15 dX12_in_11 rfl ?_
      cases h
      exact g_zret C dX12_in_15 hr hlk (Or.inr rfl)
theorem dX12_isStore_0 : decode cX12_isStore 0 = .ok (.aload_n 0, 1) := by decide +kernel
theorem dX12_isStore_1 : decode cX12_isStore 1 = .ok (.getfield 121, 3) := by decide +kernel
theorem dX12_isStore_4 : decode cX12_isStore 4 = .ok (.iload_n 1, 1) := by decide +kernel
theorem dX12_isStore_5 : decode cX12_isStore 5 = .ok (.iaload, 1) := by decide +kernel
theorem dX12_isStore_6 : decode cX12_isStore 6 = .ok (.ifCond .ne 17, 3) := by decide +kernel
theorem dX12_isStore_9 : decode cX12_isStore 9 = .ok (.aload_n 0, 1) := by decide +kernel
theorem dX12_isStore_10 : decode cX12_isStore 10 = .ok (.getfield 130, 3) := by decide +kernel
theorem dX12_isStore_13 : decode cX12_isStore 13 = .ok (.iload_n 1, 1) := by decide +kernel
theorem dX12_isStore_14 : decode cX12_isStore 14 = .ok (.iaload, 1) := by decide +kernel
theorem dX12_isStore_15 : decode cX12_isStore 15 = .ok (.iconst 2, 1) := by decide +kernel
theorem dX12_isStore_16 : decode cX12_isStore 16 = .ok (.if_icmp .ne 7, 3) := by decide +kernel
theorem dX12_isStore_19 : decode cX12_isStore 19 = .ok (.iconst 1, 1) := by decide +kernel
theorem dX12_isStore_20 : decode cX12_isStore 20 = .ok (.goto 4, 3) := by decide +kernel
theorem dX12_isStore_23 : decode cX12_isStore 23 = .ok (.iconst 0, 1) := by decide +kernel
theorem dX12_isStore_24 : decode cX12_isStore 24 = .ok (.ireturn, 1) := by decide +kernel
def fX12_isStore (x0 x1 : Int) (v : V_) : Option (Int × V_) :=
  ck_ (0 ≤ x1 ∧ x1 < 272) (
  if (v (x0 + 35) x1) = 0 then (
    ck_ (0 ≤ x1 ∧ x1 < 272) (
    if (v (x0 + 38) x1) = 2 then (
      some (1, v))
    else (
      some (0, v))))
  else (
    some (0, v)))
theorem cX12_isStore_ok (l : Launch) {E : En_} {sz : Int} (hC : Cl_ E.2.2.2.2.2 sz) {x0 x1 : Int} {v : V_} {out : Int × V_} (T0 : (E.2.2.2.2.2 x0 ∧ ty_ x0 = 12 ∧ ln_ x0 = 0)) (h : fX12_isStore x0 x1 v = some out) : Met l yX12_isStore [.code yX12_isStore cX12_isStore 2 (some FieldType.boolean)] (rm_ 0 0) (Pc_ E sz v [(2, x0), (0, x1)]) (Qc_ E sz 0 out.1 out.2) 0 0 (fun q => E.1 < q) := by
  refine met_G0 RX12 (by decide +kernel) rfl (Nat.le_of_ble_eq_true rfl) ?_
  intro p e s m args below meth c C hr hlk
  rw [fX12_isStore] at h
  refine g_aload_n C (f := 0) dX12_isStore_0 0 rfl ?_
  have F1 := fX12_54 hC T0.1 T0.2.1
  refine g_getR C (k := 54) (o := 35) okX12 (by decide) kf_RX12_121 dX12_isStore_1 hC T0.1 T0.2.1 rfl rfl ?_
  refine g_iload_n C (f := 1) dX12_isStore_4 1 rfl ?_
  obtain ⟨c2, h⟩ := ck_e h
  refine g_iald C 272 dX12_isStore_5 (rg_ hC F1.1) F1.2.1 F1.2.2 c2 ?_
  refine g_if_ne C 23 dX12_isStore_6 rfl (fun c3 => ?_) (fun c3 => ?_)
  · replace h := if_f h c3
    refine g_iconst C (n := 0) dX12_isStore_23 (by decide) ?_
    cases h
    exact g_zret C dX12_isStore_24 hr hlk (Or.inl rfl)
  · replace h := if_t h c3
    refine g_aload_n C (f := 0) dX12_isStore_9 0 rfl ?_
    have F4 := fX12_57 hC T0.1 T0.2.1
    refine g_getR C (k := 57) (o := 38) okX12 (by decide) kf_RX12_130 dX12_isStore_10 hC T0.1 T0.2.1 rfl rfl ?_
    refine g_iload_n C (f := 1) dX12_isStore_13 1 rfl ?_
    obtain ⟨c5, h⟩ := ck_e h
    refine g_iald C 272 dX12_isStore_14 (rg_ hC F4.1) F4.2.1 F4.2.2 c5 ?_
    refine g_iconst C (n := 2) dX12_isStore_15 (by decide) ?_
    refine g_icmp_ne C 23 dX12_isStore_16 rfl (fun c6 => ?_) (fun c6 => ?_)
    · replace h := if_f h c6
      refine g_iconst C (n := 0) dX12_isStore_23 (by decide) ?_
      cases h
      exact g_zret C dX12_isStore_24 hr hlk (Or.inl rfl)
    · replace h := if_t h c6
      refine g_iconst C (n := 1) dX12_isStore_19 (by decide) ?_
      refine g_goto C 24 dX12_isStore_20 rfl ?_
      cases h
      exact g_zret C dX12_isStore_24 hr hlk (Or.inr rfl)
theorem dX12_isKept_0 : decode cX12_isKept 0 = .ok (.aload_n 0, 1) := by decide +kernel
theorem dX12_isKept_1 : decode cX12_isKept 1 = .ok (.getfield 121, 3) := by decide +kernel
theorem dX12_isKept_4 : decode cX12_isKept 4 = .ok (.iload_n 2, 1) := by decide +kernel
theorem dX12_isKept_5 : decode cX12_isKept 5 = .ok (.iaload, 1) := by decide +kernel
theorem dX12_isKept_6 : decode cX12_isKept 6 = .ok (.iconst 2, 1) := by decide +kernel
theorem dX12_isKept_7 : decode cX12_isKept 7 = .ok (.if_icmp .eq 21, 3) := by decide +kernel
theorem dX12_isKept_10 : decode cX12_isKept 10 = .ok (.aload_n 0, 1) := by decide +kernel
theorem dX12_isKept_11 : decode cX12_isKept 11 = .ok (.getfield 121, 3) := by decide +kernel
theorem dX12_isKept_14 : decode cX12_isKept 14 = .ok (.iload_n 2, 1) := by decide +kernel
theorem dX12_isKept_15 : decode cX12_isKept 15 = .ok (.iaload, 1) := by decide +kernel
theorem dX12_isKept_16 : decode cX12_isKept 16 = .ok (.iconst 3, 1) := by decide +kernel
theorem dX12_isKept_17 : decode cX12_isKept 17 = .ok (.if_icmp .eq 11, 3) := by decide +kernel
theorem dX12_isKept_20 : decode cX12_isKept 20 = .ok (.aload_n 0, 1) := by decide +kernel
theorem dX12_isKept_21 : decode cX12_isKept 21 = .ok (.iload_n 2, 1) := by decide +kernel
theorem dX12_isKept_22 : decode cX12_isKept 22 = .ok (.invokevirtual 449, 3) := by decide +kernel
theorem dX12_isKept_25 : decode cX12_isKept 25 = .ok (.ifCond .eq 5, 3) := by decide +kernel
theorem dX12_isKept_28 : decode cX12_isKept 28 = .ok (.iconst 1, 1) := by decide +kernel
theorem dX12_isKept_29 : decode cX12_isKept 29 = .ok (.ireturn, 1) := by decide +kernel
theorem dX12_isKept_30 : decode cX12_isKept 30 = .ok (.aload_n 0, 1) := by decide +kernel
theorem dX12_isKept_31 : decode cX12_isKept 31 = .ok (.getfield 136, 3) := by decide +kernel
theorem dX12_isKept_34 : decode cX12_isKept 34 = .ok (.iload_n 2, 1) := by decide +kernel
theorem dX12_isKept_35 : decode cX12_isKept 35 = .ok (.iaload, 1) := by decide +kernel
theorem dX12_isKept_36 : decode cX12_isKept 36 = .ok (.istore_n 3, 1) := by decide +kernel
theorem dX12_isKept_37 : decode cX12_isKept 37 = .ok (.iload_n 3, 1) := by decide +kernel
theorem dX12_isKept_38 : decode cX12_isKept 38 = .ok (.iconst 0, 1) := by decide +kernel
theorem dX12_isKept_39 : decode cX12_isKept 39 = .ok (.iconst 5, 1) := by decide +kernel
theorem dX12_isKept_40 : decode cX12_isKept 40 = .ok (.invokestatic 334, 3) := by decide +kernel
theorem dX12_isKept_43 : decode cX12_isKept 43 = .ok (.ifCond .eq 36, 3) := by decide +kernel
theorem dX12_isKept_46 : decode cX12_isKept 46 = .ok (.aload_n 0, 1) := by decide +kernel
theorem dX12_isKept_47 : decode cX12_isKept 47 = .ok (.getfield 103, 3) := by decide +kernel
theorem dX12_isKept_50 : decode cX12_isKept 50 = .ok (.aload_n 0, 1) := by decide +kernel
theorem dX12_isKept_51 : decode cX12_isKept 51 = .ok (.aload_n 0, 1) := by decide +kernel
theorem dX12_isKept_52 : decode cX12_isKept 52 = .ok (.getfield 124, 3) := by decide +kernel
theorem dX12_isKept_55 : decode cX12_isKept 55 = .ok (.iload_n 1, 1) := by decide +kernel
theorem dX12_isKept_56 : decode cX12_isKept 56 = .ok (.iaload, 1) := by decide +kernel
theorem dX12_isKept_57 : decode cX12_isKept 57 = .ok (.aload_n 0, 1) := by decide +kernel
theorem dX12_isKept_58 : decode cX12_isKept 58 = .ok (.getfield 145, 3) := by decide +kernel
theorem dX12_isKept_61 : decode cX12_isKept 61 = .ok (.iload_n 1, 1) := by decide +kernel
theorem dX12_isKept_62 : decode cX12_isKept 62 = .ok (.iaload, 1) := by decide +kernel
theorem dX12_isKept_63 : decode cX12_isKept 63 = .ok (.invokevirtual 378, 3) := by decide +kernel
theorem dX12_isKept_66 : decode cX12_isKept 66 = .ok (.iaload, 1) := by decide +kernel
theorem dX12_isKept_67 : decode cX12_isKept 67 = .ok (.iload_n 3, 1) := by decide +kernel
theorem dX12_isKept_68 : decode cX12_isKept 68 = .ok (.ishr, 1) := by decide +kernel
theorem dX12_isKept_69 : decode cX12_isKept 69 = .ok (.iconst 1, 1) := by decide +kernel
theorem dX12_isKept_70 : decode cX12_isKept 70 = .ok (.iand, 1) := by decide +kernel
theorem dX12_isKept_71 : decode cX12_isKept 71 = .ok (.iconst 1, 1) := by decide +kernel
theorem dX12_isKept_72 : decode cX12_isKept 72 = .ok (.if_icmp .ne 7, 3) := by decide +kernel
theorem dX12_isKept_75 : decode cX12_isKept 75 = .ok (.iconst 1, 1) := by decide +kernel
theorem dX12_isKept_76 : decode cX12_isKept 76 = .ok (.goto 4, 3) := by decide +kernel
theorem dX12_isKept_79 : decode cX12_isKept 79 = .ok (.iconst 0, 1) := by decide +kernel
theorem dX12_isKept_80 : decode cX12_isKept 80 = .ok (.ireturn, 1) := by decide +kernel
def fX12_isKept (x0 x1 x2 : Int) (v : V_) : Option (Int × V_) :=
  ck_ (0 ≤ x2 ∧ x2 < 272) (
  if (v (x0 + 35) x2) = 2 then (
    some (1, v))
  else (
    ck_ (0 ≤ x2 ∧ x2 < 272) (
    if (v (x0 + 35) x2) = 3 then (
      some (1, v))
    else (
      bd_ (fX12_isStore x0 x2 v) fun q7 =>
      if q7.1 = 0 then (
        ck_ (0 ≤ x2 ∧ x2 < 272) (
        lt_ (q7.2 (x0 + 40) x2) fun y11 =>
        bd_ (fX12_in y11 0 5 q7.2) fun q12 =>
        if q12.1 = 0 then (
          some (0, q12.2))
        else (
          ck_ (0 ≤ x1 ∧ x1 < 272) (
          ck_ (0 ≤ x1 ∧ x1 < 272) (
          bd_ (fX12_wayTo x0 (q12.2 (x0 + 36) x1) (q12.2 (x0 + 43) x1) q12.2) fun q19 =>
          ck_ (0 ≤ q19.1 ∧ q19.1 < 8) (
          if (bA_ (sR_ (q19.2 (x0 + 29) q19.1) y11) 1) = 1 then (
            some (1, q19.2))
          else (
            some (0, q19.2))))))))
      else (
        some (1, q7.2))))))
theorem cX12_isKept_ok (l : Launch) {E : En_} {sz : Int} (hC : Cl_ E.2.2.2.2.2 sz) {x0 x1 x2 : Int} {v : V_} {out : Int × V_} (T0 : (E.2.2.2.2.2 x0 ∧ ty_ x0 = 12 ∧ ln_ x0 = 0)) (h : fX12_isKept x0 x1 x2 v = some out) : Met l yX12_isKept [.code yX12_isKept cX12_isKept 4 (some FieldType.boolean)] (rm_ 1 22) (Pc_ E sz v [(2, x0), (0, x1), (0, x2)]) (Qc_ E sz 0 out.1 out.2) 0 0 (fun q => E.1 < q) := by
  refine met_G0 RX12 (by decide +kernel) rfl (Nat.le_of_ble_eq_true rfl) ?_
  intro p e s m args below meth c C hr hlk
  rw [fX12_isKept] at h
  refine g_aload_n C (f := 0) dX12_isKept_0 0 rfl ?_
  have F1 := fX12_54 hC T0.1 T0.2.1
  refine g_getR C (k := 54) (o := 35) okX12 (by decide) kf_RX12_121 dX12_isKept_1 hC T0.1 T0.2.1 rfl rfl ?_
  refine g_iload_n C (f := 2) dX12_isKept_4 2 rfl ?_
  obtain ⟨c2, h⟩ := ck_e h
  refine g_iald C 272 dX12_isKept_5 (rg_ hC F1.1) F1.2.1 F1.2.2 c2 ?_
  refine g_iconst C (n := 2) dX12_isKept_6 (by decide) ?_
  refine g_icmp_eq C 28 dX12_isKept_7 rfl (fun c3 => ?_) (fun c3 => ?_)
  · replace h := if_t h c3
    refine g_iconst C (n := 1) dX12_isKept_28 (by decide) ?_
    cases h
    exact g_zret C dX12_isKept_29 hr hlk (Or.inr rfl)
  · replace h := if_f h c3
    refine g_aload_n C (f := 0) dX12_isKept_10 0 rfl ?_
    have F4 := fX12_54 hC T0.1 T0.2.1
    refine g_getR C (k := 54) (o := 35) okX12 (by decide) kf_RX12_121 dX12_isKept_11 hC T0.1 T0.2.1 rfl rfl ?_
    refine g_iload_n C (f := 2) dX12_isKept_14 2 rfl ?_
    obtain ⟨c5, h⟩ := ck_e h
    refine g_iald C 272 dX12_isKept_15 (rg_ hC F4.1) F4.2.1 F4.2.2 c5 ?_
    refine g_iconst C (n := 3) dX12_isKept_16 (by decide) ?_
    refine g_icmp_eq C 28 dX12_isKept_17 rfl (fun c6 => ?_) (fun c6 => ?_)
    · replace h := if_t h c6
      refine g_iconst C (n := 1) dX12_isKept_28 (by decide) ?_
      cases h
      exact g_zret C dX12_isKept_29 hr hlk (Or.inr rfl)
    · replace h := if_f h c6
      refine g_aload_n C (f := 0) dX12_isKept_20 0 rfl ?_
      refine g_iload_n C (f := 2) dX12_isKept_21 2 rfl ?_
      obtain ⟨q7, eq7, h⟩ := bd_e h
      refine g_cV C [(0, x2)] (cX12_isStore_ok l hC T0 eq7) okX12 T0.2.1 (rg_ hC T0.1) km_RX12_449 cv_X12_isStore rfl (by decide) rfl rfl (Nat.le_of_ble_eq_true rfl) dX12_isKept_22 ?_
      refine g_if_eq C 30 dX12_isKept_25 rfl (fun c8 => ?_) (fun c8 => ?_)
      · replace h := if_t h c8
        refine g_aload_n C (f := 0) dX12_isKept_30 0 rfl ?_
        have F9 := fX12_59 hC T0.1 T0.2.1
        refine g_getR C (k := 59) (o := 40) okX12 (by decide) kf_RX12_136 dX12_isKept_31 hC T0.1 T0.2.1 rfl rfl ?_
        refine g_iload_n C (f := 2) dX12_isKept_34 2 rfl ?_
        obtain ⟨c10, h⟩ := ck_e h
        refine g_iald C 272 dX12_isKept_35 (rg_ hC F9.1) F9.2.1 F9.2.2 c10 ?_
        obtain ⟨y11, ey11, h⟩ := lt_e h
        refine g_set C ey11 ?_
        refine g_istore_n C (f := 3) (ls' := [(3, (0, y11)), (0, (2, x0)), (1, (0, x1)), (2, (0, x2))]) dX12_isKept_36 (by decide) rfl ?_
        refine g_iload_n C (f := 3) dX12_isKept_37 0 rfl ?_
        refine g_iconst C (n := 0) dX12_isKept_38 (by decide) ?_
        refine g_iconst C (n := 5) dX12_isKept_39 (by decide) ?_
        obtain ⟨q12, eq12, h⟩ := bd_e h
        refine g_cS C [(0, y11), (0, 0), (0, 5)] (cX12_in_ok l hC eq12) km_RX12_334 cs_X12_in rfl (by decide) rfl rfl (Nat.le_of_ble_eq_true rfl) dX12_isKept_40 ?_
        refine g_if_eq C 79 dX12_isKept_43 rfl (fun c13 => ?_) (fun c13 => ?_)
        · replace h := if_t h c13
          refine g_iconst C (n := 0) dX12_isKept_79 (by decide) ?_
          cases h
          exact g_zret C dX12_isKept_80 hr hlk (Or.inl rfl)
        · replace h := if_f h c13
          refine g_aload_n C (f := 0) dX12_isKept_46 1 rfl ?_
          have F14 := fX12_47 hC T0.1 T0.2.1
          refine g_getR C (k := 47) (o := 29) okX12 (by decide) kf_RX12_103 dX12_isKept_47 hC T0.1 T0.2.1 rfl rfl ?_
          refine g_aload_n C (f := 0) dX12_isKept_50 1 rfl ?_
          refine g_aload_n C (f := 0) dX12_isKept_51 1 rfl ?_
          have F15 := fX12_55 hC T0.1 T0.2.1
          refine g_getR C (k := 55) (o := 36) okX12 (by decide) kf_RX12_124 dX12_isKept_52 hC T0.1 T0.2.1 rfl rfl ?_
          refine g_iload_n C (f := 1) dX12_isKept_55 2 rfl ?_
          obtain ⟨c16, h⟩ := ck_e h
          refine g_iald C 272 dX12_isKept_56 (rg_ hC F15.1) F15.2.1 F15.2.2 c16 ?_
          refine g_aload_n C (f := 0) dX12_isKept_57 1 rfl ?_
          have F17 := fX12_62 hC T0.1 T0.2.1
          refine g_getR C (k := 62) (o := 43) okX12 (by decide) kf_RX12_145 dX12_isKept_58 hC T0.1 T0.2.1 rfl rfl ?_
          refine g_iload_n C (f := 1) dX12_isKept_61 2 rfl ?_
          obtain ⟨c18, h⟩ := ck_e h
          refine g_iald C 272 dX12_isKept_62 (rg_ hC F17.1) F17.2.1 F17.2.2 c18 ?_
          obtain ⟨q19, eq19, h⟩ := bd_e h
          refine g_cV C [(0, q12.2 (x0 + 36) x1), (0, q12.2 (x0 + 43) x1)] (cX12_wayTo_ok l hC T0 eq19) okX12 T0.2.1 (rg_ hC T0.1) km_RX12_378 cv_X12_wayTo rfl (by decide) rfl rfl (Nat.le_of_ble_eq_true rfl) dX12_isKept_63 ?_
          obtain ⟨c20, h⟩ := ck_e h
          refine g_iald C 8 dX12_isKept_66 (rg_ hC F14.1) F14.2.1 F14.2.2 c20 ?_
          refine g_iload_n C (f := 3) dX12_isKept_67 0 rfl ?_
          refine g_ishr C dX12_isKept_68 ?_
          refine g_iconst C (n := 1) dX12_isKept_69 (by decide) ?_
          refine g_iand C dX12_isKept_70 ?_
          refine g_iconst C (n := 1) dX12_isKept_71 (by decide) ?_
          refine g_icmp_ne C 79 dX12_isKept_72 rfl (fun c21 => ?_) (fun c21 => ?_)
          · replace h := if_f h c21
            refine g_iconst C (n := 0) dX12_isKept_79 (by decide) ?_
            cases h
            exact g_zret C dX12_isKept_80 hr hlk (Or.inl rfl)
          · replace h := if_t h c21
            refine g_iconst C (n := 1) dX12_isKept_75 (by decide) ?_
            refine g_goto C 80 dX12_isKept_76 rfl ?_
            cases h
            exact g_zret C dX12_isKept_80 hr hlk (Or.inr rfl)
      · replace h := if_f h c8
        refine g_iconst C (n := 1) dX12_isKept_28 (by decide) ?_
        cases h
        exact g_zret C dX12_isKept_29 hr hlk (Or.inr rfl)
theorem dX12_isLastSet_0 : decode cX12_isLastSet 0 = .ok (.aload_n 0, 1) := by decide +kernel
theorem dX12_isLastSet_1 : decode cX12_isLastSet 1 = .ok (.iload_n 2, 1) := by decide +kernel
theorem dX12_isLastSet_2 : decode cX12_isLastSet 2 = .ok (.aload_n 0, 1) := by decide +kernel
theorem dX12_isLastSet_3 : decode cX12_isLastSet 3 = .ok (.getfield 136, 3) := by decide +kernel
theorem dX12_isLastSet_6 : decode cX12_isLastSet 6 = .ok (.iload_n 1, 1) := by decide +kernel
theorem dX12_isLastSet_7 : decode cX12_isLastSet 7 = .ok (.iaload, 1) := by decide +kernel
theorem dX12_isLastSet_8 : decode cX12_isLastSet 8 = .ok (.invokevirtual 446, 3) := by decide +kernel
theorem dX12_isLastSet_11 : decode cX12_isLastSet 11 = .ok (.ifCond .ne 5, 3) := by decide +kernel
theorem dX12_isLastSet_14 : decode cX12_isLastSet 14 = .ok (.iconst 0, 1) := by decide +kernel
theorem dX12_isLastSet_15 : decode cX12_isLastSet 15 = .ok (.ireturn, 1) := by decide +kernel
theorem dX12_isLastSet_16 : decode cX12_isLastSet 16 = .ok (.iload_n 1, 1) := by decide +kernel
theorem dX12_isLastSet_17 : decode cX12_isLastSet 17 = .ok (.iconst 1, 1) := by decide +kernel
theorem dX12_isLastSet_18 : decode cX12_isLastSet 18 = .ok (.iadd, 1) := by decide +kernel
theorem dX12_isLastSet_19 : decode cX12_isLastSet 19 = .ok (.istore_n 3, 1) := by decide +kernel
theorem dX12_isLastSet_20 : decode cX12_isLastSet 20 = .ok (.iload_n 3, 1) := by decide +kernel
theorem dX12_isLastSet_21 : decode cX12_isLastSet 21 = .ok (.iload_n 2, 1) := by decide +kernel
theorem dX12_isLastSet_22 : decode cX12_isLastSet 22 = .ok (.if_icmp .ge 26, 3) := by decide +kernel
theorem dX12_isLastSet_25 : decode cX12_isLastSet 25 = .ok (.aload_n 0, 1) := by decide +kernel
theorem dX12_isLastSet_26 : decode cX12_isLastSet 26 = .ok (.getfield 136, 3) := by decide +kernel
theorem dX12_isLastSet_29 : decode cX12_isLastSet 29 = .ok (.iload_n 3, 1) := by decide +kernel
theorem dX12_isLastSet_30 : decode cX12_isLastSet 30 = .ok (.iaload, 1) := by decide +kernel
theorem dX12_isLastSet_31 : decode cX12_isLastSet 31 = .ok (.aload_n 0, 1) := by decide +kernel
theorem dX12_isLastSet_32 : decode cX12_isLastSet 32 = .ok (.getfield 136, 3) := by decide +kernel
theorem dX12_isLastSet_35 : decode cX12_isLastSet 35 = .ok (.iload_n 1, 1) := by decide +kernel
theorem dX12_isLastSet_36 : decode cX12_isLastSet 36 = .ok (.iaload, 1) := by decide +kernel
theorem dX12_isLastSet_37 : decode cX12_isLastSet 37 = .ok (.if_icmp .ne 5, 3) := by decide +kernel
theorem dX12_isLastSet_40 : decode cX12_isLastSet 40 = .ok (.iconst 0, 1) := by decide +kernel
theorem dX12_isLastSet_41 : decode cX12_isLastSet 41 = .ok (.ireturn, 1) := by decide +kernel
theorem dX12_isLastSet_42 : decode cX12_isLastSet 42 = .ok (.iinc 3 1, 3) := by decide +kernel
theorem dX12_isLastSet_45 : decode cX12_isLastSet 45 = .ok (.goto (-25), 3) := by decide +kernel
theorem dX12_isLastSet_48 : decode cX12_isLastSet 48 = .ok (.iconst 1, 1) := by decide +kernel
theorem dX12_isLastSet_49 : decode cX12_isLastSet 49 = .ok (.ireturn, 1) := by decide +kernel
def fX12_isLastSet_20 : Nat → Int → Int → Int → Int → V_ → Option (Int × V_)
  | 0, _, _, _, _, _ => none
  | n + 1, x0, x1, x2, x3, v =>
    if x2 ≤ x3 then (
      some (1, v))
    else (
      ck_ (0 ≤ x3 ∧ x3 < 272) (
      ck_ (0 ≤ x1 ∧ x1 < 272) (
      if (v (x0 + 40) x3) = (v (x0 + 40) x1) then (
        some (0, v))
      else (
        lt_ (wr_ (x3 + 1)) fun y12 =>
        (fX12_isLastSet_20 n) x0 x1 x2 y12 v))))
def fX12_isLastSet (x0 x1 x2 : Int) (v : V_) : Option (Int × V_) :=
  ck_ (0 ≤ x1 ∧ x1 < 272) (
  bd_ (fX12_doesRead x0 x2 (v (x0 + 40) x1) v) fun q3 =>
  if q3.1 = 0 then (
    some (0, q3.2))
  else (
    lt_ (wr_ (x1 + 1)) fun y5 =>
    fX12_isLastSet_20 fu_ x0 x1 x2 y5 q3.2))
section
variable {E : En_} {p : Program} {l : Launch} {e : Env} {s : State} {m : MethodId} {args : Array Value} {below : List Frame} {meth : Method} {c : Code} {sz : Int}
theorem tX12_isLastSet_20 (C : MC_ E p s m c cX12_isLastSet 4 RX12) (hr : meth.sig.returnType = (some FieldType.boolean)) (hlk : meth.locks = false) (hC : Cl_ E.2.2.2.2.2 sz) {out : Int × V_} : ∀ (n : Nat) (x0 x1 x2 x3 : Int) (v : V_), (E.2.2.2.2.2 x0 ∧ ty_ x0 = 12 ∧ ln_ x0 = 0) → fX12_isLastSet_20 n x0 x1 x2 x3 v = some out → G_ E p l e (rm_ 1 22) s m args below meth c 4 sz (Q_ E below args s sz sz 0 out.1 out.2) 20 [(0, (2, x0)), (1, (0, x1)), (2, (0, x2)), (3, (0, x3))] [] v sz := by
  intro n
  induction n with
  | zero =>
    intro x0 x1 x2 x3 v T0 h
    cases h
  | succ n H_20 =>
    intro x0 x1 x2 x3 v T0 h
    rw [fX12_isLastSet_20] at h
    refine g_iload_n C (f := 3) dX12_isLastSet_20 3 rfl ?_
    refine g_iload_n C (f := 2) dX12_isLastSet_21 2 rfl ?_
    refine g_icmp_ge C 48 dX12_isLastSet_22 rfl (fun c6 => ?_) (fun c6 => ?_)
    · replace h := if_t h c6
      refine g_iconst C (n := 1) dX12_isLastSet_48 (by decide) ?_
      cases h
      exact g_zret C dX12_isLastSet_49 hr hlk (Or.inr rfl)
    · replace h := if_f h c6
      refine g_aload_n C (f := 0) dX12_isLastSet_25 0 rfl ?_
      have F7 := fX12_59 hC T0.1 T0.2.1
      refine g_getR C (k := 59) (o := 40) okX12 (by decide) kf_RX12_136 dX12_isLastSet_26 hC T0.1 T0.2.1 rfl rfl ?_
      refine g_iload_n C (f := 3) dX12_isLastSet_29 3 rfl ?_
      obtain ⟨c8, h⟩ := ck_e h
      refine g_iald C 272 dX12_isLastSet_30 (rg_ hC F7.1) F7.2.1 F7.2.2 c8 ?_
      refine g_aload_n C (f := 0) dX12_isLastSet_31 0 rfl ?_
      have F9 := fX12_59 hC T0.1 T0.2.1
      refine g_getR C (k := 59) (o := 40) okX12 (by decide) kf_RX12_136 dX12_isLastSet_32 hC T0.1 T0.2.1 rfl rfl ?_
      refine g_iload_n C (f := 1) dX12_isLastSet_35 1 rfl ?_
      obtain ⟨c10, h⟩ := ck_e h
      refine g_iald C 272 dX12_isLastSet_36 (rg_ hC F9.1) F9.2.1 F9.2.2 c10 ?_
      refine g_icmp_ne C 42 dX12_isLastSet_37 rfl (fun c11 => ?_) (fun c11 => ?_)
      · replace h := if_f h c11
        obtain ⟨y12, ey12, h⟩ := lt_e h
        refine g_iincx C (ls' := [(3, (0, y12)), (0, (2, x0)), (1, (0, x1)), (2, (0, x2))]) ey12 dX12_isLastSet_42 3 rfl (by decide) (by decide) rfl ?_
        refine g_goto C 20 dX12_isLastSet_45 rfl ?_
        refine g_sub [1, 2, 3, 0] rfl rfl ?_
        exact H_20 _ _ _ _ _ T0 h
      · replace h := if_t h c11
        refine g_iconst C (n := 0) dX12_isLastSet_40 (by decide) ?_
        cases h
        exact g_zret C dX12_isLastSet_41 hr hlk (Or.inl rfl)
end
theorem cX12_isLastSet_ok (l : Launch) {E : En_} {sz : Int} (hC : Cl_ E.2.2.2.2.2 sz) {x0 x1 x2 : Int} {v : V_} {out : Int × V_} (T0 : (E.2.2.2.2.2 x0 ∧ ty_ x0 = 12 ∧ ln_ x0 = 0)) (h : fX12_isLastSet x0 x1 x2 v = some out) : Met l yX12_isLastSet [.code yX12_isLastSet cX12_isLastSet 4 (some FieldType.boolean)] (rm_ 1 22) (Pc_ E sz v [(2, x0), (0, x1), (0, x2)]) (Qc_ E sz 0 out.1 out.2) 0 0 (fun q => E.1 < q) := by
  refine met_G0 RX12 (by decide +kernel) rfl (Nat.le_of_ble_eq_true rfl) ?_
  intro p e s m args below meth c C hr hlk
  rw [fX12_isLastSet] at h
  refine g_aload_n C (f := 0) dX12_isLastSet_0 0 rfl ?_
  refine g_iload_n C (f := 2) dX12_isLastSet_1 2 rfl ?_
  refine g_aload_n C (f := 0) dX12_isLastSet_2 0 rfl ?_
  have F1 := fX12_59 hC T0.1 T0.2.1
  refine g_getR C (k := 59) (o := 40) okX12 (by decide) kf_RX12_136 dX12_isLastSet_3 hC T0.1 T0.2.1 rfl rfl ?_
  refine g_iload_n C (f := 1) dX12_isLastSet_6 1 rfl ?_
  obtain ⟨c2, h⟩ := ck_e h
  refine g_iald C 272 dX12_isLastSet_7 (rg_ hC F1.1) F1.2.1 F1.2.2 c2 ?_
  obtain ⟨q3, eq3, h⟩ := bd_e h
  refine g_cV C [(0, x2), (0, v (x0 + 40) x1)] (cX12_doesRead_ok l hC T0 eq3) okX12 T0.2.1 (rg_ hC T0.1) km_RX12_446 cv_X12_doesRead rfl (by decide) rfl rfl (Nat.le_of_ble_eq_true rfl) dX12_isLastSet_8 ?_
  refine g_if_ne C 16 dX12_isLastSet_11 rfl (fun c4 => ?_) (fun c4 => ?_)
  · replace h := if_f h c4
    refine g_iload_n C (f := 1) dX12_isLastSet_16 1 rfl ?_
    refine g_iconst C (n := 1) dX12_isLastSet_17 (by decide) ?_
    refine g_iadd C dX12_isLastSet_18 ?_
    obtain ⟨y5, ey5, h⟩ := lt_e h
    refine g_set C ey5 ?_
    refine g_istore_n C (f := 3) (ls' := [(3, (0, y5)), (0, (2, x0)), (1, (0, x1)), (2, (0, x2))]) dX12_isLastSet_19 (by decide) rfl ?_
    refine g_sub [1, 2, 3, 0] rfl rfl ?_
    exact tX12_isLastSet_20 C hr hlk hC _ _ _ _ _ _ T0 h
  · replace h := if_t h c4
    refine g_iconst C (n := 0) dX12_isLastSet_14 (by decide) ?_
    cases h
    exact g_zret C dX12_isLastSet_15 hr hlk (Or.inl rfl)
theorem dX12_isLoad_0 : decode cX12_isLoad 0 = .ok (.aload_n 0, 1) := by decide +kernel
theorem dX12_isLoad_1 : decode cX12_isLoad 1 = .ok (.getfield 121, 3) := by decide +kernel
theorem dX12_isLoad_4 : decode cX12_isLoad 4 = .ok (.iload_n 1, 1) := by decide +kernel
theorem dX12_isLoad_5 : decode cX12_isLoad 5 = .ok (.iaload, 1) := by decide +kernel
theorem dX12_isLoad_6 : decode cX12_isLoad 6 = .ok (.ifCond .ne 17, 3) := by decide +kernel
theorem dX12_isLoad_9 : decode cX12_isLoad 9 = .ok (.aload_n 0, 1) := by decide +kernel
theorem dX12_isLoad_10 : decode cX12_isLoad 10 = .ok (.getfield 130, 3) := by decide +kernel
theorem dX12_isLoad_13 : decode cX12_isLoad 13 = .ok (.iload_n 1, 1) := by decide +kernel
theorem dX12_isLoad_14 : decode cX12_isLoad 14 = .ok (.iaload, 1) := by decide +kernel
theorem dX12_isLoad_15 : decode cX12_isLoad 15 = .ok (.iconst 1, 1) := by decide +kernel
theorem dX12_isLoad_16 : decode cX12_isLoad 16 = .ok (.if_icmp .ne 7, 3) := by decide +kernel
theorem dX12_isLoad_19 : decode cX12_isLoad 19 = .ok (.iconst 1, 1) := by decide +kernel
theorem dX12_isLoad_20 : decode cX12_isLoad 20 = .ok (.goto 4, 3) := by decide +kernel
theorem dX12_isLoad_23 : decode cX12_isLoad 23 = .ok (.iconst 0, 1) := by decide +kernel
theorem dX12_isLoad_24 : decode cX12_isLoad 24 = .ok (.ireturn, 1) := by decide +kernel
def fX12_isLoad (x0 x1 : Int) (v : V_) : Option (Int × V_) :=
  ck_ (0 ≤ x1 ∧ x1 < 272) (
  if (v (x0 + 35) x1) = 0 then (
    ck_ (0 ≤ x1 ∧ x1 < 272) (
    if (v (x0 + 38) x1) = 1 then (
      some (1, v))
    else (
      some (0, v))))
  else (
    some (0, v)))
theorem cX12_isLoad_ok (l : Launch) {E : En_} {sz : Int} (hC : Cl_ E.2.2.2.2.2 sz) {x0 x1 : Int} {v : V_} {out : Int × V_} (T0 : (E.2.2.2.2.2 x0 ∧ ty_ x0 = 12 ∧ ln_ x0 = 0)) (h : fX12_isLoad x0 x1 v = some out) : Met l yX12_isLoad [.code yX12_isLoad cX12_isLoad 2 (some FieldType.boolean)] (rm_ 0 0) (Pc_ E sz v [(2, x0), (0, x1)]) (Qc_ E sz 0 out.1 out.2) 0 0 (fun q => E.1 < q) := by
  refine met_G0 RX12 (by decide +kernel) rfl (Nat.le_of_ble_eq_true rfl) ?_
  intro p e s m args below meth c C hr hlk
  rw [fX12_isLoad] at h
  refine g_aload_n C (f := 0) dX12_isLoad_0 0 rfl ?_
  have F1 := fX12_54 hC T0.1 T0.2.1
  refine g_getR C (k := 54) (o := 35) okX12 (by decide) kf_RX12_121 dX12_isLoad_1 hC T0.1 T0.2.1 rfl rfl ?_
  refine g_iload_n C (f := 1) dX12_isLoad_4 1 rfl ?_
  obtain ⟨c2, h⟩ := ck_e h
  refine g_iald C 272 dX12_isLoad_5 (rg_ hC F1.1) F1.2.1 F1.2.2 c2 ?_
  refine g_if_ne C 23 dX12_isLoad_6 rfl (fun c3 => ?_) (fun c3 => ?_)
  · replace h := if_f h c3
    refine g_iconst C (n := 0) dX12_isLoad_23 (by decide) ?_
    cases h
    exact g_zret C dX12_isLoad_24 hr hlk (Or.inl rfl)
  · replace h := if_t h c3
    refine g_aload_n C (f := 0) dX12_isLoad_9 0 rfl ?_
    have F4 := fX12_57 hC T0.1 T0.2.1
    refine g_getR C (k := 57) (o := 38) okX12 (by decide) kf_RX12_130 dX12_isLoad_10 hC T0.1 T0.2.1 rfl rfl ?_
    refine g_iload_n C (f := 1) dX12_isLoad_13 1 rfl ?_
    obtain ⟨c5, h⟩ := ck_e h
    refine g_iald C 272 dX12_isLoad_14 (rg_ hC F4.1) F4.2.1 F4.2.2 c5 ?_
    refine g_iconst C (n := 1) dX12_isLoad_15 (by decide) ?_
    refine g_icmp_ne C 23 dX12_isLoad_16 rfl (fun c6 => ?_) (fun c6 => ?_)
    · replace h := if_f h c6
      refine g_iconst C (n := 0) dX12_isLoad_23 (by decide) ?_
      cases h
      exact g_zret C dX12_isLoad_24 hr hlk (Or.inl rfl)
    · replace h := if_t h c6
      refine g_iconst C (n := 1) dX12_isLoad_19 (by decide) ?_
      refine g_goto C 24 dX12_isLoad_20 rfl ?_
      cases h
      exact g_zret C dX12_isLoad_24 hr hlk (Or.inr rfl)
theorem dX12_takesOf_0 : decode cX12_takesOf 0 = .ok (.aload_n 0, 1) := by decide +kernel
theorem dX12_takesOf_1 : decode cX12_takesOf 1 = .ok (.getfield 88, 3) := by decide +kernel
theorem dX12_takesOf_4 : decode cX12_takesOf 4 = .ok (.bipush 43, 2) := by decide +kernel
theorem dX12_takesOf_6 : decode cX12_takesOf 6 = .ok (.iload_n 1, 1) := by decide +kernel
theorem dX12_takesOf_7 : decode cX12_takesOf 7 = .ok (.iadd, 1) := by decide +kernel
theorem dX12_takesOf_8 : decode cX12_takesOf 8 = .ok (.iaload, 1) := by decide +kernel
theorem dX12_takesOf_9 : decode cX12_takesOf 9 = .ok (.ireturn, 1) := by decide +kernel
def fX12_takesOf (x0 x1 : Int) (v : V_) : Option (Int × V_) :=
  ck_ (0 ≤ wr_ (43 + x1) ∧ wr_ (43 + x1) < 47) (
  some (v (x0 + 24) (wr_ (43 + x1)), v))
theorem cX12_takesOf_ok (l : Launch) {E : En_} {sz : Int} (hC : Cl_ E.2.2.2.2.2 sz) {x0 x1 : Int} {v : V_} {out : Int × V_} (T0 : (E.2.2.2.2.2 x0 ∧ ty_ x0 = 12 ∧ ln_ x0 = 0)) (h : fX12_takesOf x0 x1 v = some out) : Met l yX12_takesOf [.code yX12_takesOf cX12_takesOf 2 (some FieldType.int)] (rm_ 0 0) (Pc_ E sz v [(2, x0), (0, x1)]) (Qc_ E sz 0 out.1 out.2) 0 0 (fun q => E.1 < q) := by
  refine met_G0 RX12 (by decide +kernel) rfl (Nat.le_of_ble_eq_true rfl) ?_
  intro p e s m args below meth c C hr hlk
  rw [fX12_takesOf] at h
  refine g_aload_n C (f := 0) dX12_takesOf_0 0 rfl ?_
  have F1 := fX12_37 hC T0.1 T0.2.1
  refine g_getR C (k := 37) (o := 24) okX12 (by decide) kf_RX12_88 dX12_takesOf_1 hC T0.1 T0.2.1 rfl rfl ?_
  refine g_bipush C (n := 43) dX12_takesOf_4 (by decide) ?_
  refine g_iload_n C (f := 1) dX12_takesOf_6 1 rfl ?_
  refine g_iadd C dX12_takesOf_7 ?_
  obtain ⟨c2, h⟩ := ck_e h
  refine g_iald C 47 dX12_takesOf_8 (rg_ hC F1.1) F1.2.1 F1.2.2 c2 ?_
  cases h
  exact g_iret C dX12_takesOf_9 hr hlk
theorem dX12_takesItem_0 : decode cX12_takesItem 0 = .ok (.aload_n 0, 1) := by decide +kernel
theorem dX12_takesItem_1 : decode cX12_takesItem 1 = .ok (.aload_n 0, 1) := by decide +kernel
theorem dX12_takesItem_2 : decode cX12_takesItem 2 = .ok (.getfield 127, 3) := by decide +kernel
theorem dX12_takesItem_5 : decode cX12_takesItem 5 = .ok (.iload_n 1, 1) := by decide +kernel
theorem dX12_takesItem_6 : decode cX12_takesItem 6 = .ok (.iaload, 1) := by decide +kernel
theorem dX12_takesItem_7 : decode cX12_takesItem 7 = .ok (.invokevirtual 375, 3) := by decide +kernel
theorem dX12_takesItem_10 : decode cX12_takesItem 10 = .ok (.ireturn, 1) := by decide +kernel
def fX12_takesItem (x0 x1 : Int) (v : V_) : Option (Int × V_) :=
  ck_ (0 ≤ x1 ∧ x1 < 272) (
  bd_ (fX12_takesOf x0 (v (x0 + 37) x1) v) fun q3 =>
  some (q3.1, q3.2))
theorem cX12_takesItem_ok (l : Launch) {E : En_} {sz : Int} (hC : Cl_ E.2.2.2.2.2 sz) {x0 x1 : Int} {v : V_} {out : Int × V_} (T0 : (E.2.2.2.2.2 x0 ∧ ty_ x0 = 12 ∧ ln_ x0 = 0)) (h : fX12_takesItem x0 x1 v = some out) : Met l yX12_takesItem [.code yX12_takesItem cX12_takesItem 2 (some FieldType.int)] (rm_ 1 21) (Pc_ E sz v [(2, x0), (0, x1)]) (Qc_ E sz 0 out.1 out.2) 0 0 (fun q => E.1 < q) := by
  refine met_G0 RX12 (by decide +kernel) rfl (Nat.le_of_ble_eq_true rfl) ?_
  intro p e s m args below meth c C hr hlk
  rw [fX12_takesItem] at h
  refine g_aload_n C (f := 0) dX12_takesItem_0 0 rfl ?_
  refine g_aload_n C (f := 0) dX12_takesItem_1 0 rfl ?_
  have F1 := fX12_56 hC T0.1 T0.2.1
  refine g_getR C (k := 56) (o := 37) okX12 (by decide) kf_RX12_127 dX12_takesItem_2 hC T0.1 T0.2.1 rfl rfl ?_
  refine g_iload_n C (f := 1) dX12_takesItem_5 1 rfl ?_
  obtain ⟨c2, h⟩ := ck_e h
  refine g_iald C 272 dX12_takesItem_6 (rg_ hC F1.1) F1.2.1 F1.2.2 c2 ?_
  obtain ⟨q3, eq3, h⟩ := bd_e h
  refine g_cV C [(0, v (x0 + 37) x1)] (cX12_takesOf_ok l hC T0 eq3) okX12 T0.2.1 (rg_ hC T0.1) km_RX12_375 cv_X12_takesOf rfl (by decide) rfl rfl (Nat.le_of_ble_eq_true rfl) dX12_takesItem_7 ?_
  cases h
  exact g_iret C dX12_takesItem_10 hr hlk
