theorem dX4_savedBy_0 : decode cX4_savedBy 0 = .ok (.iconst 0, 1) := by decide +kernel
theorem dX4_savedBy_1 : decode cX4_savedBy 1 = .ok (.istore_n 3, 1) := by decide +kernel
theorem dX4_savedBy_2 : decode cX4_savedBy 2 = .ok (.aload_n 0, 1) := by decide +kernel
theorem dX4_savedBy_3 : decode cX4_savedBy 3 = .ok (.getfield 24, 3) := by decide +kernel
theorem dX4_savedBy_6 : decode cX4_savedBy 6 = .ok (.iload_n 1, 1) := by decide +kernel
theorem dX4_savedBy_7 : decode cX4_savedBy 7 = .ok (.iaload, 1) := by decide +kernel
theorem dX4_savedBy_8 : decode cX4_savedBy 8 = .ok (.istore 4, 2) := by decide +kernel
theorem dX4_savedBy_10 : decode cX4_savedBy 10 = .ok (.aload_n 0, 1) := by decide +kernel
theorem dX4_savedBy_11 : decode cX4_savedBy 11 = .ok (.getfield 24, 3) := by decide +kernel
theorem dX4_savedBy_14 : decode cX4_savedBy 14 = .ok (.iload_n 1, 1) := by decide +kernel
theorem dX4_savedBy_15 : decode cX4_savedBy 15 = .ok (.iconst 4, 1) := by decide +kernel
theorem dX4_savedBy_16 : decode cX4_savedBy 16 = .ok (.iload 4, 2) := by decide +kernel
theorem dX4_savedBy_18 : decode cX4_savedBy 18 = .ok (.iconst 1, 1) := by decide +kernel
theorem dX4_savedBy_19 : decode cX4_savedBy 19 = .ok (.iadd, 1) := by decide +kernel
theorem dX4_savedBy_20 : decode cX4_savedBy 20 = .ok (.invokestatic 172, 3) := by decide +kernel
theorem dX4_savedBy_23 : decode cX4_savedBy 23 = .ok (.iastore, 1) := by decide +kernel
theorem dX4_savedBy_24 : decode cX4_savedBy 24 = .ok (.iconst 0, 1) := by decide +kernel
theorem dX4_savedBy_25 : decode cX4_savedBy 25 = .ok (.istore 5, 2) := by decide +kernel
theorem dX4_savedBy_27 : decode cX4_savedBy 27 = .ok (.iload 5, 2) := by decide +kernel
theorem dX4_savedBy_29 : decode cX4_savedBy 29 = .ok (.aload_n 0, 1) := by decide +kernel
theorem dX4_savedBy_30 : decode cX4_savedBy 30 = .ok (.getfield 35, 3) := by decide +kernel
theorem dX4_savedBy_33 : decode cX4_savedBy 33 = .ok (.if_icmp .ge 58, 3) := by decide +kernel
theorem dX4_savedBy_36 : decode cX4_savedBy 36 = .ok (.iload_n 3, 1) := by decide +kernel
theorem dX4_savedBy_37 : decode cX4_savedBy 37 = .ok (.aload_n 0, 1) := by decide +kernel
theorem dX4_savedBy_38 : decode cX4_savedBy 38 = .ok (.getfield 11, 3) := by decide +kernel
theorem dX4_savedBy_41 : decode cX4_savedBy 41 = .ok (.iload 5, 2) := by decide +kernel
theorem dX4_savedBy_43 : decode cX4_savedBy 43 = .ok (.aaload, 1) := by decide +kernel
theorem dX4_savedBy_44 : decode cX4_savedBy 44 = .ok (.getfield 145, 3) := by decide +kernel
theorem dX4_savedBy_47 : decode cX4_savedBy 47 = .ok (.aload_n 0, 1) := by decide +kernel
theorem dX4_savedBy_48 : decode cX4_savedBy 48 = .ok (.getfield 30, 3) := by decide +kernel
theorem dX4_savedBy_51 : decode cX4_savedBy 51 = .ok (.aload_n 0, 1) := by decide +kernel
theorem dX4_savedBy_52 : decode cX4_savedBy 52 = .ok (.getfield 11, 3) := by decide +kernel
theorem dX4_savedBy_55 : decode cX4_savedBy 55 = .ok (.iload 5, 2) := by decide +kernel
theorem dX4_savedBy_57 : decode cX4_savedBy 57 = .ok (.aaload, 1) := by decide +kernel
theorem dX4_savedBy_58 : decode cX4_savedBy 58 = .ok (.aload_n 0, 1) := by decide +kernel
theorem dX4_savedBy_59 : decode cX4_savedBy 59 = .ok (.getfield 24, 3) := by decide +kernel
theorem dX4_savedBy_62 : decode cX4_savedBy 62 = .ok (.invokevirtual 68, 3) := by decide +kernel
theorem dX4_savedBy_65 : decode cX4_savedBy 65 = .ok (.isub, 1) := by decide +kernel
theorem dX4_savedBy_66 : decode cX4_savedBy 66 = .ok (.aload_n 2, 1) := by decide +kernel
theorem dX4_savedBy_67 : decode cX4_savedBy 67 = .ok (.aload_n 0, 1) := by decide +kernel
theorem dX4_savedBy_68 : decode cX4_savedBy 68 = .ok (.getfield 11, 3) := by decide +kernel
theorem dX4_savedBy_71 : decode cX4_savedBy 71 = .ok (.iload 5, 2) := by decide +kernel
theorem dX4_savedBy_73 : decode cX4_savedBy 73 = .ok (.aaload, 1) := by decide +kernel
theorem dX4_savedBy_74 : decode cX4_savedBy 74 = .ok (.getfield 98, 3) := by decide +kernel
theorem dX4_savedBy_77 : decode cX4_savedBy 77 = .ok (.iconst 0, 1) := by decide +kernel
theorem dX4_savedBy_78 : decode cX4_savedBy 78 = .ok (.iaload, 1) := by decide +kernel
theorem dX4_savedBy_79 : decode cX4_savedBy 79 = .ok (.invokevirtual 105, 3) := by decide +kernel
theorem dX4_savedBy_82 : decode cX4_savedBy 82 = .ok (.imul, 1) := by decide +kernel
theorem dX4_savedBy_83 : decode cX4_savedBy 83 = .ok (.iadd, 1) := by decide +kernel
theorem dX4_savedBy_84 : decode cX4_savedBy 84 = .ok (.istore_n 3, 1) := by decide +kernel
theorem dX4_savedBy_85 : decode cX4_savedBy 85 = .ok (.iinc 5 1, 3) := by decide +kernel
theorem dX4_savedBy_88 : decode cX4_savedBy 88 = .ok (.goto (-61), 3) := by decide +kernel
theorem dX4_savedBy_91 : decode cX4_savedBy 91 = .ok (.aload_n 0, 1) := by decide +kernel
theorem dX4_savedBy_92 : decode cX4_savedBy 92 = .ok (.getfield 24, 3) := by decide +kernel
theorem dX4_savedBy_95 : decode cX4_savedBy 95 = .ok (.iload_n 1, 1) := by decide +kernel
theorem dX4_savedBy_96 : decode cX4_savedBy 96 = .ok (.iload 4, 2) := by decide +kernel
theorem dX4_savedBy_98 : decode cX4_savedBy 98 = .ok (.iastore, 1) := by decide +kernel
theorem dX4_savedBy_99 : decode cX4_savedBy 99 = .ok (.iload_n 3, 1) := by decide +kernel
theorem dX4_savedBy_100 : decode cX4_savedBy 100 = .ok (.ireturn, 1) := by decide +kernel
def fX4_savedBy_27 : Nat → Int → Int → Int → Int → Int → Int → V_ → Option (Int × V_)
  | 0, _, _, _, _, _, _, _ => none
  | n + 1, x0, x1, x2, x3, x4, x5, v =>
    if (v x0 0) ≤ x5 then (
      ck_ (0 ≤ x1 ∧ x1 < 4) (
      lt_ (up_ v (x0 + 4) x1 x4) fun v10 =>
      some (x3, v10)))
    else (
      ck_ (0 ≤ x5 ∧ x5 < 8) (
      ck_ (0 ≤ x5 ∧ x5 < 8) (
      bd_ (fX2_lay (x0 + 5) ((x0 + 1) + (10 + 75 * x5)) (x0 + 4) v) fun q19 =>
      ck_ (0 ≤ x5 ∧ x5 < 8) (
      bd_ (fX7_begunOf x2 (q19.2 (((x0 + 1) + (10 + 75 * x5)) + 1) 0) q19.2) fun q24 =>
      lt_ (wr_ (x3 + (wr_ ((wr_ ((v ((x0 + 1) + (10 + 75 * x5)) 9) - q19.1)) * q24.1)))) fun y25 =>
      lt_ (wr_ (x5 + 1)) fun y26 =>
      (fX4_savedBy_27 n) x0 x1 x2 y25 x4 y26 q24.2))))
def fX4_savedBy (x0 x1 x2 : Int) (v : V_) : Option (Int × V_) :=
  ck_ (0 ≤ x1 ∧ x1 < 4) (
  lt_ (v (x0 + 4) x1) fun y3 =>
  ck_ (0 ≤ x1 ∧ x1 < 4) (
  lt_ (up_ v (x0 + 4) x1 (mn_ 4 (wr_ (y3 + 1)))) fun v6 =>
  fX4_savedBy_27 fu_ x0 x1 x2 0 y3 0 v6))
section
variable {E : En_} {p : Program} {l : Launch} {e : Env} {s : State} {m : MethodId} {args : Array Value} {below : List Frame} {meth : Method} {c : Code} {sz : Int}
theorem tX4_savedBy_27 (C : MC_ E p s m c cX4_savedBy 6 RX4) (hr : meth.sig.returnType = (some FieldType.int)) (hlk : meth.locks = false) (hC : Cl_ E.2.2.2.2.2 sz) {out : Int × V_} : ∀ (n : Nat) (x0 x1 x2 x3 x4 x5 : Int) (v : V_), (E.2.2.2.2.2 x0 ∧ ty_ x0 = 4 ∧ ln_ x0 = 0) → (E.2.2.2.2.2 x2 ∧ ty_ x2 = 7 ∧ ln_ x2 = 0) → fX4_savedBy_27 n x0 x1 x2 x3 x4 x5 v = some out → G_ E p l e (rm_ 3 72) s m args below meth c 6 sz (Q_ E below args s sz sz 0 out.1 out.2) 27 [(0, (2, x0)), (1, (0, x1)), (2, (2, x2)), (3, (0, x3)), (4, (0, x4)), (5, (0, x5))] [] v sz := by
  intro n
  induction n with
  | zero =>
    intro x0 x1 x2 x3 x4 x5 v T0 T2 h
    cases h
  | succ n H_27 =>
    intro x0 x1 x2 x3 x4 x5 v T0 T2 h
    rw [fX4_savedBy_27] at h
    refine g_iload C (i := 5) dX4_savedBy_27 5 rfl ?_
    refine g_aload_n C (f := 0) dX4_savedBy_29 0 rfl ?_
    refine g_getf C (k := 0) (kd := 0) okX4 (by decide) kf_RX4_35 dX4_savedBy_30 (rg_ hC T0.1) T0.2.1 rfl ?_
    refine g_icmp_ge C 91 dX4_savedBy_33 rfl (fun c7 => ?_) (fun c7 => ?_)
    · replace h := if_t h c7
      refine g_aload_n C (f := 0) dX4_savedBy_91 0 rfl ?_
      have F8 := fX4_5 hC T0.1 T0.2.1
      refine g_getR C (k := 5) (o := 4) okX4 (by decide) kf_RX4_24 dX4_savedBy_92 hC T0.1 T0.2.1 rfl rfl ?_
      refine g_iload_n C (f := 1) dX4_savedBy_95 1 rfl ?_
      refine g_iload C (i := 4) dX4_savedBy_96 4 rfl ?_
      obtain ⟨c9, h⟩ := ck_e h
      obtain ⟨v10, ev10, h⟩ := lt_e h
      refine g_iast C 4 dX4_savedBy_98 (rg_ hC F8.1) F8.2.1 F8.2.2 c9 v10 ev10 ?_
      refine g_iload_n C (f := 3) dX4_savedBy_99 3 rfl ?_
      cases h
      exact g_iret C dX4_savedBy_100 hr hlk
    · replace h := if_f h c7
      refine g_iload_n C (f := 3) dX4_savedBy_36 3 rfl ?_
      refine g_aload_n C (f := 0) dX4_savedBy_37 0 rfl ?_
      have F11 := fX4_2 hC T0.1 T0.2.1
      refine g_getR C (k := 2) (o := 1) okX4 (by decide) kf_RX4_11 dX4_savedBy_38 hC T0.1 T0.2.1 rfl rfl ?_
      refine g_iload C (i := 5) dX4_savedBy_41 5 rfl ?_
      obtain ⟨c12, h⟩ := ck_e h
      have F13 := fE_traces (i := x5) hC F11.1 F11.2.1 F11.2.2 c12
      refine g_aald C 27 8 10 75 dX4_savedBy_43 hC F11.1 F11.2.1 F11.2.2 c12 (by decide) oA_traces ?_
      refine g_getf C (k := 9) (kd := 0) okX10 (by decide) kf_RX4_145 dX4_savedBy_44 (rg_ hC F13.1) F13.2.1 rfl ?_
      refine g_aload_n C (f := 0) dX4_savedBy_47 0 rfl ?_
      have F14 := fX4_6 hC T0.1 T0.2.1
      refine g_getR C (k := 6) (o := 5) okX4 (by decide) kf_RX4_30 dX4_savedBy_48 hC T0.1 T0.2.1 rfl rfl ?_
      refine g_aload_n C (f := 0) dX4_savedBy_51 0 rfl ?_
      have F15 := fX4_2 hC T0.1 T0.2.1
      refine g_getR C (k := 2) (o := 1) okX4 (by decide) kf_RX4_11 dX4_savedBy_52 hC T0.1 T0.2.1 rfl rfl ?_
      refine g_iload C (i := 5) dX4_savedBy_55 5 rfl ?_
      obtain ⟨c16, h⟩ := ck_e h
      have F17 := fE_traces (i := x5) hC F15.1 F15.2.1 F15.2.2 c16
      refine g_aald C 27 8 10 75 dX4_savedBy_57 hC F15.1 F15.2.1 F15.2.2 c16 (by decide) oA_traces ?_
      refine g_aload_n C (f := 0) dX4_savedBy_58 0 rfl ?_
      have F18 := fX4_5 hC T0.1 T0.2.1
      refine g_getR C (k := 5) (o := 4) okX4 (by decide) kf_RX4_24 dX4_savedBy_59 hC T0.1 T0.2.1 rfl rfl ?_
      obtain ⟨q19, eq19, h⟩ := bd_e h
      refine g_cV C [(2, (x0 + 1) + (10 + 75 * x5)), (2, x0 + 4)] (cX2_lay_ok l hC F14 F17 F18 eq19) okX2 F14.2.1 (rg_ hC F14.1) km_RX4_68 cv_X2_lay rfl (by decide) rfl rfl (Nat.le_of_ble_eq_true rfl) dX4_savedBy_62 ?_
      refine g_isub C dX4_savedBy_65 ?_
      refine g_aload_n C (f := 2) dX4_savedBy_66 2 rfl ?_
      refine g_aload_n C (f := 0) dX4_savedBy_67 0 rfl ?_
      have F20 := fX4_2 hC T0.1 T0.2.1
      refine g_getR C (k := 2) (o := 1) okX4 (by decide) kf_RX4_11 dX4_savedBy_68 hC T0.1 T0.2.1 rfl rfl ?_
      refine g_iload C (i := 5) dX4_savedBy_71 5 rfl ?_
      obtain ⟨c21, h⟩ := ck_e h
      have F22 := fE_traces (i := x5) hC F20.1 F20.2.1 F20.2.2 c21
      refine g_aald C 27 8 10 75 dX4_savedBy_73 hC F20.1 F20.2.1 F20.2.2 c21 (by decide) oA_traces ?_
      have F23 := fX10_0 hC F22.1 F22.2.1
      refine g_getR C (k := 0) (o := 1) okX10 (by decide) kf_RX4_98 dX4_savedBy_74 hC F22.1 F22.2.1 rfl rfl ?_
      refine g_iconst C (n := 0) dX4_savedBy_77 (by decide) ?_
      refine g_iald C 4 dX4_savedBy_78 (rg_ hC F23.1) F23.2.1 F23.2.2 (by decide) ?_
      obtain ⟨q24, eq24, h⟩ := bd_e h
      refine g_cV C [(0, q19.2 (((x0 + 1) + (10 + 75 * x5)) + 1) 0)] (cX7_begunOf_ok l hC T2 eq24) okX7 T2.2.1 (rg_ hC T2.1) km_RX4_105 cv_X7_begunOf rfl (by decide) rfl rfl (Nat.le_of_ble_eq_true rfl) dX4_savedBy_79 ?_
      refine g_imul C dX4_savedBy_82 ?_
      refine g_iadd C dX4_savedBy_83 ?_
      obtain ⟨y25, ey25, h⟩ := lt_e h
      refine g_set C ey25 ?_
      refine g_istore_n C (f := 3) (ls' := [(3, (0, y25)), (0, (2, x0)), (1, (0, x1)), (2, (2, x2)), (4, (0, x4)), (5, (0, x5))]) dX4_savedBy_84 (by decide) rfl ?_
      obtain ⟨y26, ey26, h⟩ := lt_e h
      refine g_iincx C (ls' := [(5, (0, y26)), (3, (0, y25)), (0, (2, x0)), (1, (0, x1)), (2, (2, x2)), (4, (0, x4))]) ey26 dX4_savedBy_85 5 rfl (by decide) (by decide) rfl ?_
      refine g_goto C 27 dX4_savedBy_88 rfl ?_
      refine g_sub [2, 3, 4, 1, 5, 0] rfl rfl ?_
      exact H_27 _ _ _ _ _ _ _ T0 T2 h
end
theorem cX4_savedBy_ok (l : Launch) {E : En_} {sz : Int} (hC : Cl_ E.2.2.2.2.2 sz) {x0 x1 x2 : Int} {v : V_} {out : Int × V_} (T0 : (E.2.2.2.2.2 x0 ∧ ty_ x0 = 4 ∧ ln_ x0 = 0)) (T2 : (E.2.2.2.2.2 x2 ∧ ty_ x2 = 7 ∧ ln_ x2 = 0)) (h : fX4_savedBy x0 x1 x2 v = some out) : Met l yX4_savedBy [.code yX4_savedBy cX4_savedBy 6 (some FieldType.int)] (rm_ 3 72) (Pc_ E sz v [(2, x0), (0, x1), (2, x2)]) (Qc_ E sz 0 out.1 out.2) 0 0 (fun q => E.1 < q) := by
  refine met_G0 RX4 (by decide +kernel) rfl (Nat.le_of_ble_eq_true rfl) ?_
  intro p e s m args below meth c C hr hlk
  rw [fX4_savedBy] at h
  refine g_iconst C (n := 0) dX4_savedBy_0 (by decide) ?_
  refine g_istore_n C (f := 3) (ls' := [(3, (0, 0)), (0, (2, x0)), (1, (0, x1)), (2, (2, x2))]) dX4_savedBy_1 (by decide) rfl ?_
  refine g_aload_n C (f := 0) dX4_savedBy_2 1 rfl ?_
  have F1 := fX4_5 hC T0.1 T0.2.1
  refine g_getR C (k := 5) (o := 4) okX4 (by decide) kf_RX4_24 dX4_savedBy_3 hC T0.1 T0.2.1 rfl rfl ?_
  refine g_iload_n C (f := 1) dX4_savedBy_6 2 rfl ?_
  obtain ⟨c2, h⟩ := ck_e h
  refine g_iald C 4 dX4_savedBy_7 (rg_ hC F1.1) F1.2.1 F1.2.2 c2 ?_
  obtain ⟨y3, ey3, h⟩ := lt_e h
  refine g_set C ey3 ?_
  refine g_istore C (i := 4) (ls' := [(4, (0, y3)), (3, (0, 0)), (0, (2, x0)), (1, (0, x1)), (2, (2, x2))]) dX4_savedBy_8 (by decide) rfl ?_
  refine g_aload_n C (f := 0) dX4_savedBy_10 2 rfl ?_
  have F4 := fX4_5 hC T0.1 T0.2.1
  refine g_getR C (k := 5) (o := 4) okX4 (by decide) kf_RX4_24 dX4_savedBy_11 hC T0.1 T0.2.1 rfl rfl ?_
  refine g_iload_n C (f := 1) dX4_savedBy_14 3 rfl ?_
  refine g_iconst C (n := 4) dX4_savedBy_15 (by decide) ?_
  refine g_iload C (i := 4) dX4_savedBy_16 0 rfl ?_
  refine g_iconst C (n := 1) dX4_savedBy_18 (by decide) ?_
  refine g_iadd C dX4_savedBy_19 ?_
  refine g_min0 C km_RX4_172 dX4_savedBy_20 ⟨Nat.le_of_ble_eq_true rfl, Nat.le_of_ble_eq_true rfl⟩ ?_
  obtain ⟨c5, h⟩ := ck_e h
  obtain ⟨v6, ev6, h⟩ := lt_e h
  refine g_iast C 4 dX4_savedBy_23 (rg_ hC F4.1) F4.2.1 F4.2.2 c5 v6 ev6 ?_
  refine g_iconst C (n := 0) dX4_savedBy_24 (by decide) ?_
  refine g_istore C (i := 5) (ls' := [(5, (0, 0)), (4, (0, y3)), (3, (0, 0)), (0, (2, x0)), (1, (0, x1)), (2, (2, x2))]) dX4_savedBy_25 (by decide) rfl ?_
  refine g_sub [3, 4, 5, 2, 1, 0] rfl rfl ?_
  exact tX4_savedBy_27 C hr hlk hC _ _ _ _ _ _ _ _ T0 T2 h
theorem dX4_traceAt_0 : decode cX4_traceAt 0 = .ok (.iload_n 1, 1) := by decide +kernel
theorem dX4_traceAt_1 : decode cX4_traceAt 1 = .ok (.ifCond .lt 20, 3) := by decide +kernel
theorem dX4_traceAt_4 : decode cX4_traceAt 4 = .ok (.iload_n 1, 1) := by decide +kernel
theorem dX4_traceAt_5 : decode cX4_traceAt 5 = .ok (.aload_n 0, 1) := by decide +kernel
theorem dX4_traceAt_6 : decode cX4_traceAt 6 = .ok (.getfield 35, 3) := by decide +kernel
theorem dX4_traceAt_9 : decode cX4_traceAt 9 = .ok (.if_icmp .ge 12, 3) := by decide +kernel
theorem dX4_traceAt_12 : decode cX4_traceAt 12 = .ok (.aload_n 0, 1) := by decide +kernel
theorem dX4_traceAt_13 : decode cX4_traceAt 13 = .ok (.getfield 11, 3) := by decide +kernel
theorem dX4_traceAt_16 : decode cX4_traceAt 16 = .ok (.iload_n 1, 1) := by decide +kernel
theorem dX4_traceAt_17 : decode cX4_traceAt 17 = .ok (.aaload, 1) := by decide +kernel
theorem dX4_traceAt_18 : decode cX4_traceAt 18 = .ok (.goto 4, 3) := by decide +kernel
theorem dX4_traceAt_21 : decode cX4_traceAt 21 = .ok (.aconst_null, 1) := by decide +kernel
theorem dX4_traceAt_22 : decode cX4_traceAt 22 = .ok (.areturn, 1) := by decide +kernel
def fX4_traceAt (x0 x1 : Int) (v : V_) : Option (Int × V_) :=
  if x1 < 0 then (
    some (0, v))
  else (
    if (v x0 0) ≤ x1 then (
      some (0, v))
    else (
      ck_ (0 ≤ x1 ∧ x1 < 8) (
      some ((x0 + 1) + (10 + 75 * x1), v))))
theorem cX4_traceAt_ok (l : Launch) {E : En_} {sz : Int} (hC : Cl_ E.2.2.2.2.2 sz) {x0 x1 : Int} {v : V_} {out : Int × V_} (T0 : (E.2.2.2.2.2 x0 ∧ ty_ x0 = 4 ∧ ln_ x0 = 0)) (h : fX4_traceAt x0 x1 v = some out) : Met l yX4_traceAt [.code yX4_traceAt cX4_traceAt 2 (some (FieldType.object "TraceDesk$Trace"))] (rm_ 0 0) (Pc_ E sz v [(2, x0), (0, x1)]) (Qc_ E sz 2 out.1 out.2) 0 0 (fun q => E.1 < q) := by
  refine met_G0 RX4 (by decide +kernel) rfl (Nat.le_of_ble_eq_true rfl) ?_
  intro p e s m args below meth c C hr hlk
  rw [fX4_traceAt] at h
  refine g_iload_n C (f := 1) dX4_traceAt_0 1 rfl ?_
  refine g_if_lt C 21 dX4_traceAt_1 rfl (fun c1 => ?_) (fun c1 => ?_)
  · replace h := if_t h c1
    refine g_null C dX4_traceAt_21 ?_
    cases h
    exact g_aret C dX4_traceAt_22 hr (Or.inl ⟨_, rfl⟩) hlk
  · replace h := if_f h c1
    refine g_iload_n C (f := 1) dX4_traceAt_4 1 rfl ?_
    refine g_aload_n C (f := 0) dX4_traceAt_5 0 rfl ?_
    refine g_getf C (k := 0) (kd := 0) okX4 (by decide) kf_RX4_35 dX4_traceAt_6 (rg_ hC T0.1) T0.2.1 rfl ?_
    refine g_icmp_ge C 21 dX4_traceAt_9 rfl (fun c2 => ?_) (fun c2 => ?_)
    · replace h := if_t h c2
      refine g_null C dX4_traceAt_21 ?_
      cases h
      exact g_aret C dX4_traceAt_22 hr (Or.inl ⟨_, rfl⟩) hlk
    · replace h := if_f h c2
      refine g_aload_n C (f := 0) dX4_traceAt_12 0 rfl ?_
      have F3 := fX4_2 hC T0.1 T0.2.1
      refine g_getR C (k := 2) (o := 1) okX4 (by decide) kf_RX4_11 dX4_traceAt_13 hC T0.1 T0.2.1 rfl rfl ?_
      refine g_iload_n C (f := 1) dX4_traceAt_16 1 rfl ?_
      obtain ⟨c4, h⟩ := ck_e h
      have F5 := fE_traces (i := x1) hC F3.1 F3.2.1 F3.2.2 c4
      refine g_aald C 27 8 10 75 dX4_traceAt_17 hC F3.1 F3.2.1 F3.2.2 c4 (by decide) oA_traces ?_
      refine g_goto C 22 dX4_traceAt_18 rfl ?_
      cases h
      exact g_aret C dX4_traceAt_22 hr (Or.inl ⟨_, rfl⟩) hlk
theorem rX4_traceAt_ok {E : En_} {sz : Int} (hC : Cl_ E.2.2.2.2.2 sz) {x0 x1 : Int} {v : V_} {out : Int × V_} (T0 : (E.2.2.2.2.2 x0 ∧ ty_ x0 = 4 ∧ ln_ x0 = 0)) (h : fX4_traceAt x0 x1 v = some out) : (out.1 = 0 ∨ (E.2.2.2.2.2 out.1 ∧ ty_ out.1 = 10 ∧ ln_ out.1 = 0)) := by
  rw [fX4_traceAt] at h
  split at h
  · cases h; exact Or.inl rfl
  · split at h
    · cases h; exact Or.inl rfl
    · obtain ⟨g, h⟩ := ck_e h
      cases h
      exact Or.inr (fE_traces hC (fX4_2 hC T0.1 T0.2.1).1 (fX4_2 hC T0.1 T0.2.1).2.1 (fX4_2 hC T0.1 T0.2.1).2.2 g)
theorem dX4_startedBy_0 : decode cX4_startedBy 0 = .ok (.aload_n 0, 1) := by decide +kernel
theorem dX4_startedBy_1 : decode cX4_startedBy 1 = .ok (.getfield 21, 3) := by decide +kernel
theorem dX4_startedBy_4 : decode cX4_startedBy 4 = .ok (.iload_n 1, 1) := by decide +kernel
theorem dX4_startedBy_5 : decode cX4_startedBy 5 = .ok (.iaload, 1) := by decide +kernel
theorem dX4_startedBy_6 : decode cX4_startedBy 6 = .ok (.ifCond .ne 16, 3) := by decide +kernel
theorem dX4_startedBy_9 : decode cX4_startedBy 9 = .ok (.aload_n 0, 1) := by decide +kernel
theorem dX4_startedBy_10 : decode cX4_startedBy 10 = .ok (.aload_n 0, 1) := by decide +kernel
theorem dX4_startedBy_11 : decode cX4_startedBy 11 = .ok (.getfield 17, 3) := by decide +kernel
theorem dX4_startedBy_14 : decode cX4_startedBy 14 = .ok (.iload_n 1, 1) := by decide +kernel
theorem dX4_startedBy_15 : decode cX4_startedBy 15 = .ok (.iaload, 1) := by decide +kernel
theorem dX4_startedBy_16 : decode cX4_startedBy 16 = .ok (.invokevirtual 42, 3) := by decide +kernel
theorem dX4_startedBy_19 : decode cX4_startedBy 19 = .ok (.goto 4, 3) := by decide +kernel
theorem dX4_startedBy_22 : decode cX4_startedBy 22 = .ok (.aconst_null, 1) := by decide +kernel
theorem dX4_startedBy_23 : decode cX4_startedBy 23 = .ok (.areturn, 1) := by decide +kernel
def fX4_startedBy (x0 x1 : Int) (v : V_) : Option (Int × V_) :=
  ck_ (0 ≤ x1 ∧ x1 < 8) (
  if (v (x0 + 3) x1) = 0 then (
    ck_ (0 ≤ x1 ∧ x1 < 8) (
    bd_ (fX4_traceAt x0 (v (x0 + 2) x1) v) fun q6 =>
    some (q6.1, q6.2)))
  else (
    some (0, v)))
theorem cX4_startedBy_ok (l : Launch) {E : En_} {sz : Int} (hC : Cl_ E.2.2.2.2.2 sz) {x0 x1 : Int} {v : V_} {out : Int × V_} (T0 : (E.2.2.2.2.2 x0 ∧ ty_ x0 = 4 ∧ ln_ x0 = 0)) (h : fX4_startedBy x0 x1 v = some out) : Met l yX4_startedBy [.code yX4_startedBy cX4_startedBy 2 (some (FieldType.object "TraceDesk$Trace"))] (rm_ 1 21) (Pc_ E sz v [(2, x0), (0, x1)]) (Qc_ E sz 2 out.1 out.2) 0 0 (fun q => E.1 < q) := by
  refine met_G0 RX4 (by decide +kernel) rfl (Nat.le_of_ble_eq_true rfl) ?_
  intro p e s m args below meth c C hr hlk
  rw [fX4_startedBy] at h
  refine g_aload_n C (f := 0) dX4_startedBy_0 0 rfl ?_
  have F1 := fX4_4 hC T0.1 T0.2.1
  refine g_getR C (k := 4) (o := 3) okX4 (by decide) kf_RX4_21 dX4_startedBy_1 hC T0.1 T0.2.1 rfl rfl ?_
  refine g_iload_n C (f := 1) dX4_startedBy_4 1 rfl ?_
  obtain ⟨c2, h⟩ := ck_e h
  refine g_iald C 8 dX4_startedBy_5 (rg_ hC F1.1) F1.2.1 F1.2.2 c2 ?_
  refine g_if_ne C 22 dX4_startedBy_6 rfl (fun c3 => ?_) (fun c3 => ?_)
  · replace h := if_f h c3
    refine g_null C dX4_startedBy_22 ?_
    cases h
    exact g_aret C dX4_startedBy_23 hr (Or.inl ⟨_, rfl⟩) hlk
  · replace h := if_t h c3
    refine g_aload_n C (f := 0) dX4_startedBy_9 0 rfl ?_
    refine g_aload_n C (f := 0) dX4_startedBy_10 0 rfl ?_
    have F4 := fX4_3 hC T0.1 T0.2.1
    refine g_getR C (k := 3) (o := 2) okX4 (by decide) kf_RX4_17 dX4_startedBy_11 hC T0.1 T0.2.1 rfl rfl ?_
    refine g_iload_n C (f := 1) dX4_startedBy_14 1 rfl ?_
    obtain ⟨c5, h⟩ := ck_e h
    refine g_iald C 8 dX4_startedBy_15 (rg_ hC F4.1) F4.2.1 F4.2.2 c5 ?_
    obtain ⟨q6, eq6, h⟩ := bd_e h
    refine g_cV C [(0, v (x0 + 2) x1)] (cX4_traceAt_ok l hC T0 eq6) okX4 T0.2.1 (rg_ hC T0.1) km_RX4_42 cv_X4_traceAt rfl (by decide) rfl rfl (Nat.le_of_ble_eq_true rfl) dX4_startedBy_16 ?_
    have F7 := rX4_traceAt_ok hC T0 eq6
    refine g_goto C 23 dX4_startedBy_19 rfl ?_
    cases h
    exact g_aret C dX4_startedBy_23 hr (Or.inl ⟨_, rfl⟩) hlk
theorem rX4_startedBy_ok {E : En_} {sz : Int} (hC : Cl_ E.2.2.2.2.2 sz) {x0 x1 : Int} {v : V_} {out : Int × V_} (T0 : (E.2.2.2.2.2 x0 ∧ ty_ x0 = 4 ∧ ln_ x0 = 0)) (h : fX4_startedBy x0 x1 v = some out) : (out.1 = 0 ∨ (E.2.2.2.2.2 out.1 ∧ ty_ out.1 = 10 ∧ ln_ out.1 = 0)) := by
  rw [fX4_startedBy] at h
  obtain ⟨_, h⟩ := ck_e h
  split at h
  · obtain ⟨_, h⟩ := ck_e h
    obtain ⟨q, e, h⟩ := bd_e h
    cases h
    exact rX4_traceAt_ok hC T0 e
  · cases h; exact Or.inl rfl
theorem dX4_traceOf_0 : decode cX4_traceOf 0 = .ok (.aload_n 0, 1) := by decide +kernel
theorem dX4_traceOf_1 : decode cX4_traceOf 1 = .ok (.getfield 17, 3) := by decide +kernel
theorem dX4_traceOf_4 : decode cX4_traceOf 4 = .ok (.iload_n 1, 1) := by decide +kernel
theorem dX4_traceOf_5 : decode cX4_traceOf 5 = .ok (.iaload, 1) := by decide +kernel
theorem dX4_traceOf_6 : decode cX4_traceOf 6 = .ok (.ireturn, 1) := by decide +kernel
def fX4_traceOf (x0 x1 : Int) (v : V_) : Option (Int × V_) :=
  ck_ (0 ≤ x1 ∧ x1 < 8) (
  some (v (x0 + 2) x1, v))
theorem cX4_traceOf_ok (l : Launch) {E : En_} {sz : Int} (hC : Cl_ E.2.2.2.2.2 sz) {x0 x1 : Int} {v : V_} {out : Int × V_} (T0 : (E.2.2.2.2.2 x0 ∧ ty_ x0 = 4 ∧ ln_ x0 = 0)) (h : fX4_traceOf x0 x1 v = some out) : Met l yX4_traceOf [.code yX4_traceOf cX4_traceOf 2 (some FieldType.int)] (rm_ 0 0) (Pc_ E sz v [(2, x0), (0, x1)]) (Qc_ E sz 0 out.1 out.2) 0 0 (fun q => E.1 < q) := by
  refine met_G0 RX4 (by decide +kernel) rfl (Nat.le_of_ble_eq_true rfl) ?_
  intro p e s m args below meth c C hr hlk
  rw [fX4_traceOf] at h
  refine g_aload_n C (f := 0) dX4_traceOf_0 0 rfl ?_
  have F1 := fX4_3 hC T0.1 T0.2.1
  refine g_getR C (k := 3) (o := 2) okX4 (by decide) kf_RX4_17 dX4_traceOf_1 hC T0.1 T0.2.1 rfl rfl ?_
  refine g_iload_n C (f := 1) dX4_traceOf_4 1 rfl ?_
  obtain ⟨c2, h⟩ := ck_e h
  refine g_iald C 8 dX4_traceOf_5 (rg_ hC F1.1) F1.2.1 F1.2.2 c2 ?_
  cases h
  exact g_iret C dX4_traceOf_6 hr hlk
theorem dX5_allLines_0 : decode cX5_allLines 0 = .ok (.iconst 0, 1) := by decide +kernel
theorem dX5_allLines_1 : decode cX5_allLines 1 = .ok (.istore_n 1, 1) := by decide +kernel
theorem dX5_allLines_2 : decode cX5_allLines 2 = .ok (.iconst 0, 1) := by decide +kernel
theorem dX5_allLines_3 : decode cX5_allLines 3 = .ok (.istore_n 2, 1) := by decide +kernel
theorem dX5_allLines_4 : decode cX5_allLines 4 = .ok (.iload_n 2, 1) := by decide +kernel
theorem dX5_allLines_5 : decode cX5_allLines 5 = .ok (.aload_n 0, 1) := by decide +kernel
theorem dX5_allLines_6 : decode cX5_allLines 6 = .ok (.getfield 40, 3) := by decide +kernel
theorem dX5_allLines_9 : decode cX5_allLines 9 = .ok (.if_icmp .ge 18, 3) := by decide +kernel
theorem dX5_allLines_12 : decode cX5_allLines 12 = .ok (.iload_n 1, 1) := by decide +kernel
theorem dX5_allLines_13 : decode cX5_allLines 13 = .ok (.aload_n 0, 1) := by decide +kernel
theorem dX5_allLines_14 : decode cX5_allLines 14 = .ok (.getfield 9, 3) := by decide +kernel
theorem dX5_allLines_17 : decode cX5_allLines 17 = .ok (.iload_n 2, 1) := by decide +kernel
theorem dX5_allLines_18 : decode cX5_allLines 18 = .ok (.iaload, 1) := by decide +kernel
theorem dX5_allLines_19 : decode cX5_allLines 19 = .ok (.iadd, 1) := by decide +kernel
theorem dX5_allLines_20 : decode cX5_allLines 20 = .ok (.istore_n 1, 1) := by decide +kernel
theorem dX5_allLines_21 : decode cX5_allLines 21 = .ok (.iinc 2 1, 3) := by decide +kernel
theorem dX5_allLines_24 : decode cX5_allLines 24 = .ok (.goto (-20), 3) := by decide +kernel
theorem dX5_allLines_27 : decode cX5_allLines 27 = .ok (.iload_n 1, 1) := by decide +kernel
theorem dX5_allLines_28 : decode cX5_allLines 28 = .ok (.ireturn, 1) := by decide +kernel
def fX5_allLines_4 : Nat → Int → Int → Int → V_ → Option (Int × V_)
  | 0, _, _, _, _ => none
  | n + 1, x0, x1, x2, v =>
    if (v x0 0) ≤ x2 then (
      some (x1, v))
    else (
      ck_ (0 ≤ x2 ∧ x2 < 8) (
      lt_ (wr_ (x1 + (v (x0 + 1) x2))) fun y4 =>
      lt_ (wr_ (x2 + 1)) fun y5 =>
      (fX5_allLines_4 n) x0 y4 y5 v))
def fX5_allLines (x0 : Int) (v : V_) : Option (Int × V_) :=
  fX5_allLines_4 fu_ x0 0 0 v
section
variable {E : En_} {p : Program} {l : Launch} {e : Env} {s : State} {m : MethodId} {args : Array Value} {below : List Frame} {meth : Method} {c : Code} {sz : Int}
theorem tX5_allLines_4 (C : MC_ E p s m c cX5_allLines 3 RX5) (hr : meth.sig.returnType = (some FieldType.int)) (hlk : meth.locks = false) (hC : Cl_ E.2.2.2.2.2 sz) {out : Int × V_} : ∀ (n : Nat) (x0 x1 x2 : Int) (v : V_), (E.2.2.2.2.2 x0 ∧ ty_ x0 = 5 ∧ ln_ x0 = 0) → fX5_allLines_4 n x0 x1 x2 v = some out → G_ E p l e (rm_ 0 0) s m args below meth c 3 sz (Q_ E below args s sz sz 0 out.1 out.2) 4 [(0, (2, x0)), (1, (0, x1)), (2, (0, x2))] [] v sz := by
  intro n
  induction n with
  | zero =>
    intro x0 x1 x2 v T0 h
    cases h
  | succ n H_4 =>
    intro x0 x1 x2 v T0 h
    rw [fX5_allLines_4] at h
    refine g_iload_n C (f := 2) dX5_allLines_4 2 rfl ?_
    refine g_aload_n C (f := 0) dX5_allLines_5 0 rfl ?_
    refine g_getf C (k := 0) (kd := 0) okX5 (by decide) kf_RX5_40 dX5_allLines_6 (rg_ hC T0.1) T0.2.1 rfl ?_
    refine g_icmp_ge C 27 dX5_allLines_9 rfl (fun c1 => ?_) (fun c1 => ?_)
    · replace h := if_t h c1
      refine g_iload_n C (f := 1) dX5_allLines_27 1 rfl ?_
      cases h
      exact g_iret C dX5_allLines_28 hr hlk
    · replace h := if_f h c1
      refine g_iload_n C (f := 1) dX5_allLines_12 1 rfl ?_
      refine g_aload_n C (f := 0) dX5_allLines_13 0 rfl ?_
      have F2 := fX5_1 hC T0.1 T0.2.1
      refine g_getR C (k := 1) (o := 1) okX5 (by decide) kf_RX5_9 dX5_allLines_14 hC T0.1 T0.2.1 rfl rfl ?_
      refine g_iload_n C (f := 2) dX5_allLines_17 2 rfl ?_
      obtain ⟨c3, h⟩ := ck_e h
      refine g_iald C 8 dX5_allLines_18 (rg_ hC F2.1) F2.2.1 F2.2.2 c3 ?_
      refine g_iadd C dX5_allLines_19 ?_
      obtain ⟨y4, ey4, h⟩ := lt_e h
      refine g_set C ey4 ?_
      refine g_istore_n C (f := 1) (ls' := [(1, (0, y4)), (0, (2, x0)), (2, (0, x2))]) dX5_allLines_20 (by decide) rfl ?_
      obtain ⟨y5, ey5, h⟩ := lt_e h
      refine g_iincx C (ls' := [(2, (0, y5)), (1, (0, y4)), (0, (2, x0))]) ey5 dX5_allLines_21 2 rfl (by decide) (by decide) rfl ?_
      refine g_goto C 4 dX5_allLines_24 rfl ?_
      refine g_sub [2, 1, 0] rfl rfl ?_
      exact H_4 _ _ _ _ T0 h
end
theorem cX5_allLines_ok (l : Launch) {E : En_} {sz : Int} (hC : Cl_ E.2.2.2.2.2 sz) {x0 : Int} {v : V_} {out : Int × V_} (T0 : (E.2.2.2.2.2 x0 ∧ ty_ x0 = 5 ∧ ln_ x0 = 0)) (h : fX5_allLines x0 v = some out) : Met l yX5_allLines [.code yX5_allLines cX5_allLines 3 (some FieldType.int)] (rm_ 0 0) (Pc_ E sz v [(2, x0)]) (Qc_ E sz 0 out.1 out.2) 0 0 (fun q => E.1 < q) := by
  refine met_G0 RX5 (by decide +kernel) rfl (Nat.le_of_ble_eq_true rfl) ?_
  intro p e s m args below meth c C hr hlk
  rw [fX5_allLines] at h
  refine g_iconst C (n := 0) dX5_allLines_0 (by decide) ?_
  refine g_istore_n C (f := 1) (ls' := [(1, (0, 0)), (0, (2, x0))]) dX5_allLines_1 (by decide) rfl ?_
  refine g_iconst C (n := 0) dX5_allLines_2 (by decide) ?_
  refine g_istore_n C (f := 2) (ls' := [(2, (0, 0)), (1, (0, 0)), (0, (2, x0))]) dX5_allLines_3 (by decide) rfl ?_
  refine g_sub [2, 1, 0] rfl rfl ?_
  exact tX5_allLines_4 C hr hlk hC _ _ _ _ _ T0 h
theorem dX5_hasBlock_0 : decode cX5_hasBlock 0 = .ok (.iload_n 1, 1) := by decide +kernel
theorem dX5_hasBlock_1 : decode cX5_hasBlock 1 = .ok (.ifCond .lt 15, 3) := by decide +kernel
theorem dX5_hasBlock_4 : decode cX5_hasBlock 4 = .ok (.iload_n 1, 1) := by decide +kernel
theorem dX5_hasBlock_5 : decode cX5_hasBlock 5 = .ok (.aload_n 0, 1) := by decide +kernel
theorem dX5_hasBlock_6 : decode cX5_hasBlock 6 = .ok (.getfield 40, 3) := by decide +kernel
theorem dX5_hasBlock_9 : decode cX5_hasBlock 9 = .ok (.if_icmp .ge 7, 3) := by decide +kernel
theorem dX5_hasBlock_12 : decode cX5_hasBlock 12 = .ok (.iconst 1, 1) := by decide +kernel
theorem dX5_hasBlock_13 : decode cX5_hasBlock 13 = .ok (.goto 4, 3) := by decide +kernel
theorem dX5_hasBlock_16 : decode cX5_hasBlock 16 = .ok (.iconst 0, 1) := by decide +kernel
theorem dX5_hasBlock_17 : decode cX5_hasBlock 17 = .ok (.ireturn, 1) := by decide +kernel
def fX5_hasBlock (x0 x1 : Int) (v : V_) : Option (Int × V_) :=
  if x1 < 0 then (
    some (0, v))
  else (
    if (v x0 0) ≤ x1 then (
      some (0, v))
    else (
      some (1, v)))
theorem cX5_hasBlock_ok (l : Launch) {E : En_} {sz : Int} (hC : Cl_ E.2.2.2.2.2 sz) {x0 x1 : Int} {v : V_} {out : Int × V_} (T0 : (E.2.2.2.2.2 x0 ∧ ty_ x0 = 5 ∧ ln_ x0 = 0)) (h : fX5_hasBlock x0 x1 v = some out) : Met l yX5_hasBlock [.code yX5_hasBlock cX5_hasBlock 2 (some FieldType.boolean)] (rm_ 0 0) (Pc_ E sz v [(2, x0), (0, x1)]) (Qc_ E sz 0 out.1 out.2) 0 0 (fun q => E.1 < q) := by
  refine met_G0 RX5 (by decide +kernel) rfl (Nat.le_of_ble_eq_true rfl) ?_
  intro p e s m args below meth c C hr hlk
  rw [fX5_hasBlock] at h
  refine g_iload_n C (f := 1) dX5_hasBlock_0 1 rfl ?_
  refine g_if_lt C 16 dX5_hasBlock_1 rfl (fun c1 => ?_) (fun c1 => ?_)
  · replace h := if_t h c1
    refine g_iconst C (n := 0) dX5_hasBlock_16 (by decide) ?_
    cases h
    exact g_zret C dX5_hasBlock_17 hr hlk (Or.inl rfl)
  · replace h := if_f h c1
    refine g_iload_n C (f := 1) dX5_hasBlock_4 1 rfl ?_
    refine g_aload_n C (f := 0) dX5_hasBlock_5 0 rfl ?_
    refine g_getf C (k := 0) (kd := 0) okX5 (by decide) kf_RX5_40 dX5_hasBlock_6 (rg_ hC T0.1) T0.2.1 rfl ?_
    refine g_icmp_ge C 16 dX5_hasBlock_9 rfl (fun c2 => ?_) (fun c2 => ?_)
    · replace h := if_t h c2
      refine g_iconst C (n := 0) dX5_hasBlock_16 (by decide) ?_
      cases h
      exact g_zret C dX5_hasBlock_17 hr hlk (Or.inl rfl)
    · replace h := if_f h c2
      refine g_iconst C (n := 1) dX5_hasBlock_12 (by decide) ?_
      refine g_goto C 17 dX5_hasBlock_13 rfl ?_
      cases h
      exact g_zret C dX5_hasBlock_17 hr hlk (Or.inr rfl)
theorem dX8_bitOf_0 : decode cX8_bitOf 0 = .ok (.iload_n 0, 1) := by decide +kernel
theorem dX8_bitOf_1 : decode cX8_bitOf 1 = .ok (.ifCond .ge 19, 3) := by decide +kernel
theorem dX8_bitOf_4 : decode cX8_bitOf 4 = .ok (.iload_n 0, 1) := by decide +kernel
theorem dX8_bitOf_5 : decode cX8_bitOf 5 = .ok (.iconst (-1), 1) := by decide +kernel
theorem dX8_bitOf_6 : decode cX8_bitOf 6 = .ok (.ixor, 1) := by decide +kernel
theorem dX8_bitOf_7 : decode cX8_bitOf 7 = .ok (.bipush 6, 2) := by decide +kernel
theorem dX8_bitOf_9 : decode cX8_bitOf 9 = .ok (.if_icmp .ge 11, 3) := by decide +kernel
theorem dX8_bitOf_12 : decode cX8_bitOf 12 = .ok (.iconst 1, 1) := by decide +kernel
theorem dX8_bitOf_13 : decode cX8_bitOf 13 = .ok (.iload_n 0, 1) := by decide +kernel
theorem dX8_bitOf_14 : decode cX8_bitOf 14 = .ok (.iconst (-1), 1) := by decide +kernel
theorem dX8_bitOf_15 : decode cX8_bitOf 15 = .ok (.ixor, 1) := by decide +kernel
theorem dX8_bitOf_16 : decode cX8_bitOf 16 = .ok (.ishl, 1) := by decide +kernel
theorem dX8_bitOf_17 : decode cX8_bitOf 17 = .ok (.goto 4, 3) := by decide +kernel
theorem dX8_bitOf_20 : decode cX8_bitOf 20 = .ok (.iconst 0, 1) := by decide +kernel
theorem dX8_bitOf_21 : decode cX8_bitOf 21 = .ok (.ireturn, 1) := by decide +kernel
def fX8_bitOf (x0 : Int) (v : V_) : Option (Int × V_) :=
  if 0 ≤ x0 then (
    some (0, v))
  else (
    if 6 ≤ (bX_ x0 (-1)) then (
      some (0, v))
    else (
      some (sL_ 1 (bX_ x0 (-1)), v)))
theorem cX8_bitOf_ok (l : Launch) {E : En_} {sz : Int} (hC : Cl_ E.2.2.2.2.2 sz) {x0 : Int} {v : V_} {out : Int × V_} (h : fX8_bitOf x0 v = some out) : Met l yX8_bitOf [.code yX8_bitOf cX8_bitOf 1 (some FieldType.int)] (rm_ 0 0) (Pc_ E sz v [(0, x0)]) (Qc_ E sz 0 out.1 out.2) 0 0 (fun q => E.1 < q) := by
  refine met_G0 RX8 (by decide +kernel) rfl (Nat.le_of_ble_eq_true rfl) ?_
  intro p e s m args below meth c C hr hlk
  rw [fX8_bitOf] at h
  refine g_iload_n C (f := 0) dX8_bitOf_0 0 rfl ?_
  refine g_if_ge C 20 dX8_bitOf_1 rfl (fun c1 => ?_) (fun c1 => ?_)
  · replace h := if_t h c1
    refine g_iconst C (n := 0) dX8_bitOf_20 (by decide) ?_
    cases h
    exact g_iret C dX8_bitOf_21 hr hlk
  · replace h := if_f h c1
    refine g_iload_n C (f := 0) dX8_bitOf_4 0 rfl ?_
    refine g_iconst C (n := (-1)) dX8_bitOf_5 (by decide) ?_
    refine g_ixor C dX8_bitOf_6 ?_
    refine g_bipush C (n := 6) dX8_bitOf_7 (by decide) ?_
    refine g_icmp_ge C 20 dX8_bitOf_9 rfl (fun c2 => ?_) (fun c2 => ?_)
    · replace h := if_t h c2
      refine g_iconst C (n := 0) dX8_bitOf_20 (by decide) ?_
      cases h
      exact g_iret C dX8_bitOf_21 hr hlk
    · replace h := if_f h c2
      refine g_iconst C (n := 1) dX8_bitOf_12 (by decide) ?_
      refine g_iload_n C (f := 0) dX8_bitOf_13 0 rfl ?_
      refine g_iconst C (n := (-1)) dX8_bitOf_14 (by decide) ?_
      refine g_ixor C dX8_bitOf_15 ?_
      refine g_ishl C dX8_bitOf_16 ?_
      refine g_goto C 21 dX8_bitOf_17 rfl ?_
      cases h
      exact g_iret C dX8_bitOf_21 hr hlk
theorem dX8_registersRead_0 : decode cX8_registersRead 0 = .ok (.aload_n 0, 1) := by decide +kernel
theorem dX8_registersRead_1 : decode cX8_registersRead 1 = .ok (.getfield 18, 3) := by decide +kernel
theorem dX8_registersRead_4 : decode cX8_registersRead 4 = .ok (.invokestatic 24, 3) := by decide +kernel
theorem dX8_registersRead_7 : decode cX8_registersRead 7 = .ok (.aload_n 0, 1) := by decide +kernel
theorem dX8_registersRead_8 : decode cX8_registersRead 8 = .ok (.getfield 21, 3) := by decide +kernel
theorem dX8_registersRead_11 : decode cX8_registersRead 11 = .ok (.invokestatic 24, 3) := by decide +kernel
theorem dX8_registersRead_14 : decode cX8_registersRead 14 = .ok (.ior, 1) := by decide +kernel
theorem dX8_registersRead_15 : decode cX8_registersRead 15 = .ok (.ireturn, 1) := by decide +kernel
def fX8_registersRead (x0 : Int) (v : V_) : Option (Int × V_) :=
  bd_ (fX8_bitOf (v x0 2) v) fun q1 =>
  bd_ (fX8_bitOf (q1.2 x0 3) q1.2) fun q2 =>
  some (bO_ q1.1 q2.1, q2.2)
theorem cX8_registersRead_ok (l : Launch) {E : En_} {sz : Int} (hC : Cl_ E.2.2.2.2.2 sz) {x0 : Int} {v : V_} {out : Int × V_} (T0 : (E.2.2.2.2.2 x0 ∧ ty_ x0 = 8 ∧ ln_ x0 = 0)) (h : fX8_registersRead x0 v = some out) : Met l yX8_registersRead [.code yX8_registersRead cX8_registersRead 1 (some FieldType.int)] (rm_ 1 20) (Pc_ E sz v [(2, x0)]) (Qc_ E sz 0 out.1 out.2) 0 0 (fun q => E.1 < q) := by
  refine met_G0 RX8 (by decide +kernel) rfl (Nat.le_of_ble_eq_true rfl) ?_
  intro p e s m args below meth c C hr hlk
  rw [fX8_registersRead] at h
  refine g_aload_n C (f := 0) dX8_registersRead_0 0 rfl ?_
  refine g_getf C (k := 2) (kd := 0) okX8 (by decide) kf_RX8_18 dX8_registersRead_1 (rg_ hC T0.1) T0.2.1 rfl ?_
  obtain ⟨q1, eq1, h⟩ := bd_e h
  refine g_cS C [(0, v x0 2)] (cX8_bitOf_ok l hC eq1) km_RX8_24 cs_X8_bitOf rfl (by decide) rfl rfl (Nat.le_of_ble_eq_true rfl) dX8_registersRead_4 ?_
  refine g_aload_n C (f := 0) dX8_registersRead_7 0 rfl ?_
  refine g_getf C (k := 3) (kd := 0) okX8 (by decide) kf_RX8_21 dX8_registersRead_8 (rg_ hC T0.1) T0.2.1 rfl ?_
  obtain ⟨q2, eq2, h⟩ := bd_e h
  refine g_cS C [(0, q1.2 x0 3)] (cX8_bitOf_ok l hC eq2) km_RX8_24 cs_X8_bitOf rfl (by decide) rfl rfl (Nat.le_of_ble_eq_true rfl) dX8_registersRead_11 ?_
  refine g_ior C dX8_registersRead_14 ?_
  cases h
  exact g_iret C dX8_registersRead_15 hr hlk
theorem dX5_liveAtBeginning_0 : decode cX5_liveAtBeginning 0 = .ok (.aload_n 0, 1) := by decide +kernel
theorem dX5_liveAtBeginning_1 : decode cX5_liveAtBeginning 1 = .ok (.getfield 21, 3) := by decide +kernel
theorem dX5_liveAtBeginning_4 : decode cX5_liveAtBeginning 4 = .ok (.iload_n 1, 1) := by decide +kernel
theorem dX5_liveAtBeginning_5 : decode cX5_liveAtBeginning 5 = .ok (.aaload, 1) := by decide +kernel
theorem dX5_liveAtBeginning_6 : decode cX5_liveAtBeginning 6 = .ok (.getfield 58, 3) := by decide +kernel
theorem dX5_liveAtBeginning_9 : decode cX5_liveAtBeginning 9 = .ok (.bipush 9, 2) := by decide +kernel
theorem dX5_liveAtBeginning_11 : decode cX5_liveAtBeginning 11 = .ok (.if_icmp .ne 8, 3) := by decide +kernel
theorem dX5_liveAtBeginning_14 : decode cX5_liveAtBeginning 14 = .ok (.bipush 63, 2) := by decide +kernel
theorem dX5_liveAtBeginning_16 : decode cX5_liveAtBeginning 16 = .ok (.goto 12, 3) := by decide +kernel
theorem dX5_liveAtBeginning_19 : decode cX5_liveAtBeginning 19 = .ok (.aload_n 0, 1) := by decide +kernel
theorem dX5_liveAtBeginning_20 : decode cX5_liveAtBeginning 20 = .ok (.getfield 21, 3) := by decide +kernel
theorem dX5_liveAtBeginning_23 : decode cX5_liveAtBeginning 23 = .ok (.iload_n 1, 1) := by decide +kernel
theorem dX5_liveAtBeginning_24 : decode cX5_liveAtBeginning 24 = .ok (.aaload, 1) := by decide +kernel
theorem dX5_liveAtBeginning_25 : decode cX5_liveAtBeginning 25 = .ok (.invokevirtual 61, 3) := by decide +kernel
theorem dX5_liveAtBeginning_28 : decode cX5_liveAtBeginning 28 = .ok (.istore_n 2, 1) := by decide +kernel
theorem dX5_liveAtBeginning_29 : decode cX5_liveAtBeginning 29 = .ok (.iconst 0, 1) := by decide +kernel
theorem dX5_liveAtBeginning_30 : decode cX5_liveAtBeginning 30 = .ok (.istore_n 3, 1) := by decide +kernel
theorem dX5_liveAtBeginning_31 : decode cX5_liveAtBeginning 31 = .ok (.iload_n 3, 1) := by decide +kernel
theorem dX5_liveAtBeginning_32 : decode cX5_liveAtBeginning 32 = .ok (.iconst 2, 1) := by decide +kernel
theorem dX5_liveAtBeginning_33 : decode cX5_liveAtBeginning 33 = .ok (.if_icmp .ge 40, 3) := by decide +kernel
theorem dX5_liveAtBeginning_36 : decode cX5_liveAtBeginning 36 = .ok (.aload_n 0, 1) := by decide +kernel
theorem dX5_liveAtBeginning_37 : decode cX5_liveAtBeginning 37 = .ok (.iload_n 1, 1) := by decide +kernel
theorem dX5_liveAtBeginning_38 : decode cX5_liveAtBeginning 38 = .ok (.iload_n 3, 1) := by decide +kernel
theorem dX5_liveAtBeginning_39 : decode cX5_liveAtBeginning 39 = .ok (.invokevirtual 65, 3) := by decide +kernel
theorem dX5_liveAtBeginning_42 : decode cX5_liveAtBeginning 42 = .ok (.istore 4, 2) := by decide +kernel
theorem dX5_liveAtBeginning_44 : decode cX5_liveAtBeginning 44 = .ok (.iload_n 2, 1) := by decide +kernel
theorem dX5_liveAtBeginning_45 : decode cX5_liveAtBeginning 45 = .ok (.aload_n 0, 1) := by decide +kernel
theorem dX5_liveAtBeginning_46 : decode cX5_liveAtBeginning 46 = .ok (.iload 4, 2) := by decide +kernel
theorem dX5_liveAtBeginning_48 : decode cX5_liveAtBeginning 48 = .ok (.invokevirtual 69, 3) := by decide +kernel
theorem dX5_liveAtBeginning_51 : decode cX5_liveAtBeginning 51 = .ok (.ifCond .eq 13, 3) := by decide +kernel
theorem dX5_liveAtBeginning_54 : decode cX5_liveAtBeginning 54 = .ok (.aload_n 0, 1) := by decide +kernel
theorem dX5_liveAtBeginning_55 : decode cX5_liveAtBeginning 55 = .ok (.getfield 27, 3) := by decide +kernel
theorem dX5_liveAtBeginning_58 : decode cX5_liveAtBeginning 58 = .ok (.iload 4, 2) := by decide +kernel
theorem dX5_liveAtBeginning_60 : decode cX5_liveAtBeginning 60 = .ok (.iaload, 1) := by decide +kernel
theorem dX5_liveAtBeginning_61 : decode cX5_liveAtBeginning 61 = .ok (.goto 4, 3) := by decide +kernel
theorem dX5_liveAtBeginning_64 : decode cX5_liveAtBeginning 64 = .ok (.iconst 0, 1) := by decide +kernel
theorem dX5_liveAtBeginning_65 : decode cX5_liveAtBeginning 65 = .ok (.ior, 1) := by decide +kernel
theorem dX5_liveAtBeginning_66 : decode cX5_liveAtBeginning 66 = .ok (.istore_n 2, 1) := by decide +kernel
theorem dX5_liveAtBeginning_67 : decode cX5_liveAtBeginning 67 = .ok (.iinc 3 1, 3) := by decide +kernel
theorem dX5_liveAtBeginning_70 : decode cX5_liveAtBeginning 70 = .ok (.goto (-39), 3) := by decide +kernel
theorem dX5_liveAtBeginning_73 : decode cX5_liveAtBeginning 73 = .ok (.aload_n 0, 1) := by decide +kernel
theorem dX5_liveAtBeginning_74 : decode cX5_liveAtBeginning 74 = .ok (.getfield 9, 3) := by decide +kernel
theorem dX5_liveAtBeginning_77 : decode cX5_liveAtBeginning 77 = .ok (.iload_n 1, 1) := by decide +kernel
theorem dX5_liveAtBeginning_78 : decode cX5_liveAtBeginning 78 = .ok (.iaload, 1) := by decide +kernel
theorem dX5_liveAtBeginning_79 : decode cX5_liveAtBeginning 79 = .ok (.iconst 1, 1) := by decide +kernel
theorem dX5_liveAtBeginning_80 : decode cX5_liveAtBeginning 80 = .ok (.isub, 1) := by decide +kernel
theorem dX5_liveAtBeginning_81 : decode cX5_liveAtBeginning 81 = .ok (.istore_n 3, 1) := by decide +kernel
theorem dX5_liveAtBeginning_82 : decode cX5_liveAtBeginning 82 = .ok (.iload_n 3, 1) := by decide +kernel
theorem dX5_liveAtBeginning_83 : decode cX5_liveAtBeginning 83 = .ok (.ifCond .lt 50, 3) := by decide +kernel
theorem dX5_liveAtBeginning_86 : decode cX5_liveAtBeginning 86 = .ok (.aload_n 0, 1) := by decide +kernel
theorem dX5_liveAtBeginning_87 : decode cX5_liveAtBeginning 87 = .ok (.getfield 17, 3) := by decide +kernel
theorem dX5_liveAtBeginning_90 : decode cX5_liveAtBeginning 90 = .ok (.iload_n 1, 1) := by decide +kernel
theorem dX5_liveAtBeginning_91 : decode cX5_liveAtBeginning 91 = .ok (.bipush 6, 2) := by decide +kernel
theorem dX5_liveAtBeginning_93 : decode cX5_liveAtBeginning 93 = .ok (.imul, 1) := by decide +kernel
theorem dX5_liveAtBeginning_94 : decode cX5_liveAtBeginning 94 = .ok (.iload_n 3, 1) := by decide +kernel
theorem dX5_liveAtBeginning_95 : decode cX5_liveAtBeginning 95 = .ok (.iadd, 1) := by decide +kernel
theorem dX5_liveAtBeginning_96 : decode cX5_liveAtBeginning 96 = .ok (.aaload, 1) := by decide +kernel
theorem dX5_liveAtBeginning_97 : decode cX5_liveAtBeginning 97 = .ok (.astore 4, 2) := by decide +kernel
theorem dX5_liveAtBeginning_99 : decode cX5_liveAtBeginning 99 = .ok (.aload 4, 2) := by decide +kernel
theorem dX5_liveAtBeginning_101 : decode cX5_liveAtBeginning 101 = .ok (.getfield 73, 3) := by decide +kernel
theorem dX5_liveAtBeginning_104 : decode cX5_liveAtBeginning 104 = .ok (.ifCond .lt 15, 3) := by decide +kernel
theorem dX5_liveAtBeginning_107 : decode cX5_liveAtBeginning 107 = .ok (.iload_n 2, 1) := by decide +kernel
theorem dX5_liveAtBeginning_108 : decode cX5_liveAtBeginning 108 = .ok (.iconst 1, 1) := by decide +kernel
theorem dX5_liveAtBeginning_109 : decode cX5_liveAtBeginning 109 = .ok (.aload 4, 2) := by decide +kernel
theorem dX5_liveAtBeginning_111 : decode cX5_liveAtBeginning 111 = .ok (.getfield 73, 3) := by decide +kernel
theorem dX5_liveAtBeginning_114 : decode cX5_liveAtBeginning 114 = .ok (.ishl, 1) := by decide +kernel
theorem dX5_liveAtBeginning_115 : decode cX5_liveAtBeginning 115 = .ok (.iconst (-1), 1) := by decide +kernel
theorem dX5_liveAtBeginning_116 : decode cX5_liveAtBeginning 116 = .ok (.ixor, 1) := by decide +kernel
theorem dX5_liveAtBeginning_117 : decode cX5_liveAtBeginning 117 = .ok (.iand, 1) := by decide +kernel
theorem dX5_liveAtBeginning_118 : decode cX5_liveAtBeginning 118 = .ok (.istore_n 2, 1) := by decide +kernel
theorem dX5_liveAtBeginning_119 : decode cX5_liveAtBeginning 119 = .ok (.iload_n 2, 1) := by decide +kernel
theorem dX5_liveAtBeginning_120 : decode cX5_liveAtBeginning 120 = .ok (.aload 4, 2) := by decide +kernel
theorem dX5_liveAtBeginning_122 : decode cX5_liveAtBeginning 122 = .ok (.invokevirtual 61, 3) := by decide +kernel
theorem dX5_liveAtBeginning_125 : decode cX5_liveAtBeginning 125 = .ok (.ior, 1) := by decide +kernel
theorem dX5_liveAtBeginning_126 : decode cX5_liveAtBeginning 126 = .ok (.istore_n 2, 1) := by decide +kernel
theorem dX5_liveAtBeginning_127 : decode cX5_liveAtBeginning 127 = .ok (.iinc 3 (-1), 3) := by decide +kernel
theorem dX5_liveAtBeginning_130 : decode cX5_liveAtBeginning 130 = .ok (.goto (-48), 3) := by decide +kernel
theorem dX5_liveAtBeginning_133 : decode cX5_liveAtBeginning 133 = .ok (.iload_n 2, 1) := by decide +kernel
theorem dX5_liveAtBeginning_134 : decode cX5_liveAtBeginning 134 = .ok (.ireturn, 1) := by decide +kernel
def fX5_liveAtBeginning_119 (k82 : Int → Int → Int → Int → V_ → Option (Int × V_)) (x0 x1 x2 x3 x4 : Int) (v : V_) : Option (Int × V_) :=
  bd_ (fX8_registersRead x4 v) fun q20 =>
  lt_ (bO_ x2 q20.1) fun y21 =>
  lt_ (wr_ (x3 + (-1))) fun y22 =>
  k82 x0 x1 y21 y22 q20.2
def fX5_liveAtBeginning_82 : Nat → Int → Int → Int → Int → V_ → Option (Int × V_)
  | 0, _, _, _, _, _ => none
  | n + 1, x0, x1, x2, x3, v =>
    if x3 < 0 then (
      some (x2, v))
    else (
      ck_ (0 ≤ wr_ ((wr_ (x1 * 6)) + x3) ∧ wr_ ((wr_ (x1 * 6)) + x3) < 48) (
      lt_ ((x0 + 2) + (6 + 1 * (wr_ ((wr_ (x1 * 6)) + x3)))) fun y17 =>
      if (v y17 1) < 0 then (
        fX5_liveAtBeginning_119 (fX5_liveAtBeginning_82 n) x0 x1 x2 x3 y17 v)
      else (
        lt_ (bA_ x2 (bX_ (sL_ 1 (v y17 1)) (-1))) fun y23 =>
        fX5_liveAtBeginning_119 (fX5_liveAtBeginning_82 n) x0 x1 y23 x3 y17 v)))
def fX5_liveAtBeginning_65 (k31 : Int → Int → Int → Int → V_ → Option (Int × V_)) (x0 x1 x3 s0 s1 : Int) (v : V_) : Option (Int × V_) :=
  lt_ (bO_ s0 s1) fun y27 =>
  lt_ (wr_ (x3 + 1)) fun y28 =>
  k31 x0 x1 y27 y28 v
def fX5_liveAtBeginning_31 : Nat → Int → Int → Int → Int → V_ → Option (Int × V_)
  | 0, _, _, _, _, _ => none
  | n + 1, x0, x1, x2, x3, v =>
    if 2 ≤ x3 then (
      ck_ (0 ≤ x1 ∧ x1 < 8) (
      lt_ (wr_ ((v (x0 + 1) x1) - 1)) fun y12 =>
      fX5_liveAtBeginning_82 fu_ x0 x1 x2 y12 v))
    else (
      bd_ (fX5_leadsTo x0 x1 x3 v) fun q24 =>
      bd_ (fX5_hasBlock x0 q24.1 q24.2) fun q25 =>
      if q25.1 = 0 then (
        fX5_liveAtBeginning_65 (fX5_liveAtBeginning_31 n) x0 x1 x3 x2 0 q25.2)
      else (
        ck_ (0 ≤ q24.1 ∧ q24.1 < 8) (
        fX5_liveAtBeginning_65 (fX5_liveAtBeginning_31 n) x0 x1 x3 x2 (q25.2 (x0 + 5) q24.1) q25.2)))
def fX5_liveAtBeginning (x0 x1 : Int) (v : V_) : Option (Int × V_) :=
  ck_ (0 ≤ x1 ∧ x1 < 8) (
  if (v ((x0 + 3) + (53 + 1 * x1)) 0) = 9 then (
    fX5_liveAtBeginning_31 fu_ x0 x1 63 0 v)
  else (
    ck_ (0 ≤ x1 ∧ x1 < 8) (
    bd_ (fX8_registersRead ((x0 + 3) + (53 + 1 * x1)) v) fun q8 =>
    fX5_liveAtBeginning_31 fu_ x0 x1 q8.1 0 q8.2)))
section
variable {E : En_} {p : Program} {l : Launch} {e : Env} {s : State} {m : MethodId} {args : Array Value} {below : List Frame} {meth : Method} {c : Code} {sz : Int}
theorem tX5_liveAtBeginning_119 (C : MC_ E p s m c cX5_liveAtBeginning 5 RX5) (hr : meth.sig.returnType = (some FieldType.int)) (hlk : meth.locks = false) (hC : Cl_ E.2.2.2.2.2 sz) {out : Int × V_} (k82 : Int → Int → Int → Int → V_ → Option (Int × V_)) (H_82 : ∀ (x0 x1 x2 x3 : Int) (v : V_), (E.2.2.2.2.2 x0 ∧ ty_ x0 = 5 ∧ ln_ x0 = 0) → k82 x0 x1 x2 x3 v = some out → G_ E p l e (rm_ 2 40) s m args below meth c 5 sz (Q_ E below args s sz sz 0 out.1 out.2) 82 [(0, (2, x0)), (1, (0, x1)), (2, (0, x2)), (3, (0, x3))] [] v sz) (x0 x1 x2 x3 x4 : Int) (v : V_) (T0 : (E.2.2.2.2.2 x0 ∧ ty_ x0 = 5 ∧ ln_ x0 = 0)) (T4 : (E.2.2.2.2.2 x4 ∧ ty_ x4 = 8 ∧ ln_ x4 = 0)) (h : fX5_liveAtBeginning_119 k82 x0 x1 x2 x3 x4 v = some out) : G_ E p l e (rm_ 2 40) s m args below meth c 5 sz (Q_ E below args s sz sz 0 out.1 out.2) 119 [(0, (2, x0)), (1, (0, x1)), (2, (0, x2)), (3, (0, x3)), (4, (2, x4))] [] v sz := by
  rw [fX5_liveAtBeginning_119] at h
  refine g_iload_n C (f := 2) dX5_liveAtBeginning_119 2 rfl ?_
  refine g_aload C (i := 4) dX5_liveAtBeginning_120 4 rfl ?_
  obtain ⟨q20, eq20, h⟩ := bd_e h
  refine g_cV C [] (cX8_registersRead_ok l hC T4 eq20) okX8 T4.2.1 (rg_ hC T4.1) km_RX5_61 cv_X8_registersRead rfl (by decide) rfl rfl (Nat.le_of_ble_eq_true rfl) dX5_liveAtBeginning_122 ?_
  refine g_ior C dX5_liveAtBeginning_125 ?_
  obtain ⟨y21, ey21, h⟩ := lt_e h
  refine g_set C ey21 ?_
  refine g_istore_n C (f := 2) (ls' := [(2, (0, y21)), (0, (2, x0)), (1, (0, x1)), (3, (0, x3)), (4, (2, x4))]) dX5_liveAtBeginning_126 (by decide) rfl ?_
  obtain ⟨y22, ey22, h⟩ := lt_e h
  refine g_iincx C (ls' := [(3, (0, y22)), (2, (0, y21)), (0, (2, x0)), (1, (0, x1)), (4, (2, x4))]) ey22 dX5_liveAtBeginning_127 3 rfl (by decide) (by decide) rfl ?_
  refine g_goto C 82 dX5_liveAtBeginning_130 rfl ?_
  refine g_sub [2, 3, 1, 0] rfl rfl ?_
  exact H_82 _ _ _ _ _ T0 h
theorem tX5_liveAtBeginning_82 (C : MC_ E p s m c cX5_liveAtBeginning 5 RX5) (hr : meth.sig.returnType = (some FieldType.int)) (hlk : meth.locks = false) (hC : Cl_ E.2.2.2.2.2 sz) {out : Int × V_} : ∀ (n : Nat) (x0 x1 x2 x3 : Int) (v : V_), (E.2.2.2.2.2 x0 ∧ ty_ x0 = 5 ∧ ln_ x0 = 0) → fX5_liveAtBeginning_82 n x0 x1 x2 x3 v = some out → G_ E p l e (rm_ 2 40) s m args below meth c 5 sz (Q_ E below args s sz sz 0 out.1 out.2) 82 [(0, (2, x0)), (1, (0, x1)), (2, (0, x2)), (3, (0, x3))] [] v sz := by
  intro n
  induction n with
  | zero =>
    intro x0 x1 x2 x3 v T0 h
    cases h
  | succ n H_82 =>
    intro x0 x1 x2 x3 v T0 h
    rw [fX5_liveAtBeginning_82] at h
    refine g_iload_n C (f := 3) dX5_liveAtBeginning_82 3 rfl ?_
    refine g_if_lt C 133 dX5_liveAtBeginning_83 rfl (fun c13 => ?_) (fun c13 => ?_)
    · replace h := if_t h c13
      refine g_iload_n C (f := 2) dX5_liveAtBeginning_133 2 rfl ?_
      cases h
      exact g_iret C dX5_liveAtBeginning_134 hr hlk
    · replace h := if_f h c13
      refine g_aload_n C (f := 0) dX5_liveAtBeginning_86 0 rfl ?_
      have F14 := fX5_2 hC T0.1 T0.2.1
      refine g_getR C (k := 2) (o := 2) okX5 (by decide) kf_RX5_17 dX5_liveAtBeginning_87 hC T0.1 T0.2.1 rfl rfl ?_
      refine g_iload_n C (f := 1) dX5_liveAtBeginning_90 1 rfl ?_
      refine g_bipush C (n := 6) dX5_liveAtBeginning_91 (by decide) ?_
      refine g_imul C dX5_liveAtBeginning_93 ?_
      refine g_iload_n C (f := 3) dX5_liveAtBeginning_94 3 rfl ?_
      refine g_iadd C dX5_liveAtBeginning_95 ?_
      obtain ⟨c15, h⟩ := ck_e h
      have F16 := fE_lines (i := wr_ ((wr_ (x1 * 6)) + x3)) hC F14.1 F14.2.1 F14.2.2 c15
      refine g_aald C 25 48 6 1 dX5_liveAtBeginning_96 hC F14.1 F14.2.1 F14.2.2 c15 (by decide) oA_lines ?_
      obtain ⟨y17, ey17, h⟩ := lt_e h
      refine g_set C ey17 ?_
      have F18 : (E.2.2.2.2.2 y17 ∧ ty_ y17 = 8 ∧ ln_ y17 = 0) := by rw [ey17]; exact F16
      refine g_astore C (i := 4) (ls' := [(4, (2, y17)), (0, (2, x0)), (1, (0, x1)), (2, (0, x2)), (3, (0, x3))]) dX5_liveAtBeginning_97 (by decide) rfl ?_
      refine g_aload C (i := 4) dX5_liveAtBeginning_99 0 rfl ?_
      refine g_getf C (k := 1) (kd := 0) okX8 (by decide) kf_RX5_73 dX5_liveAtBeginning_101 (rg_ hC F18.1) F18.2.1 rfl ?_
      refine g_if_lt C 119 dX5_liveAtBeginning_104 rfl (fun c19 => ?_) (fun c19 => ?_)
      · replace h := if_t h c19
        refine g_sub [1, 2, 3, 4, 0] rfl rfl ?_
        exact tX5_liveAtBeginning_119 C hr hlk hC _ H_82 _ _ _ _ _ _ T0 F18 h
      · replace h := if_f h c19
        refine g_iload_n C (f := 2) dX5_liveAtBeginning_107 3 rfl ?_
        refine g_iconst C (n := 1) dX5_liveAtBeginning_108 (by decide) ?_
        refine g_aload C (i := 4) dX5_liveAtBeginning_109 0 rfl ?_
        refine g_getf C (k := 1) (kd := 0) okX8 (by decide) kf_RX5_73 dX5_liveAtBeginning_111 (rg_ hC F18.1) F18.2.1 rfl ?_
        refine g_ishl C dX5_liveAtBeginning_114 ?_
        refine g_iconst C (n := (-1)) dX5_liveAtBeginning_115 (by decide) ?_
        refine g_ixor C dX5_liveAtBeginning_116 ?_
        refine g_iand C dX5_liveAtBeginning_117 ?_
        obtain ⟨y23, ey23, h⟩ := lt_e h
        refine g_set C ey23 ?_
        refine g_istore_n C (f := 2) (ls' := [(2, (0, y23)), (4, (2, y17)), (0, (2, x0)), (1, (0, x1)), (3, (0, x3))]) dX5_liveAtBeginning_118 (by decide) rfl ?_
        refine g_sub [2, 3, 0, 4, 1] rfl rfl ?_
        exact tX5_liveAtBeginning_119 C hr hlk hC _ H_82 _ _ _ _ _ _ T0 F18 h
theorem tX5_liveAtBeginning_65 (C : MC_ E p s m c cX5_liveAtBeginning 5 RX5) (hr : meth.sig.returnType = (some FieldType.int)) (hlk : meth.locks = false) (hC : Cl_ E.2.2.2.2.2 sz) {out : Int × V_} (k31 : Int → Int → Int → Int → V_ → Option (Int × V_)) (H_31 : ∀ (x0 x1 x2 x3 : Int) (v : V_), (E.2.2.2.2.2 x0 ∧ ty_ x0 = 5 ∧ ln_ x0 = 0) → k31 x0 x1 x2 x3 v = some out → G_ E p l e (rm_ 2 40) s m args below meth c 5 sz (Q_ E below args s sz sz 0 out.1 out.2) 31 [(0, (2, x0)), (1, (0, x1)), (2, (0, x2)), (3, (0, x3))] [] v sz) (x0 x1 x3 s0 s1 : Int) (v : V_) (T0 : (E.2.2.2.2.2 x0 ∧ ty_ x0 = 5 ∧ ln_ x0 = 0)) (h : fX5_liveAtBeginning_65 k31 x0 x1 x3 s0 s1 v = some out) : G_ E p l e (rm_ 2 40) s m args below meth c 5 sz (Q_ E below args s sz sz 0 out.1 out.2) 65 [(0, (2, x0)), (1, (0, x1)), (3, (0, x3))] [(0, s1), (0, s0)] v sz := by
  rw [fX5_liveAtBeginning_65] at h
  refine g_ior C dX5_liveAtBeginning_65 ?_
  obtain ⟨y27, ey27, h⟩ := lt_e h
  refine g_set C ey27 ?_
  refine g_istore_n C (f := 2) (ls' := [(2, (0, y27)), (0, (2, x0)), (1, (0, x1)), (3, (0, x3))]) dX5_liveAtBeginning_66 (by decide) rfl ?_
  obtain ⟨y28, ey28, h⟩ := lt_e h
  refine g_iincx C (ls' := [(3, (0, y28)), (2, (0, y27)), (0, (2, x0)), (1, (0, x1))]) ey28 dX5_liveAtBeginning_67 3 rfl (by decide) (by decide) rfl ?_
  refine g_goto C 31 dX5_liveAtBeginning_70 rfl ?_
  refine g_sub [2, 3, 1, 0] rfl rfl ?_
  exact H_31 _ _ _ _ _ T0 h
theorem tX5_liveAtBeginning_31 (C : MC_ E p s m c cX5_liveAtBeginning 5 RX5) (hr : meth.sig.returnType = (some FieldType.int)) (hlk : meth.locks = false) (hC : Cl_ E.2.2.2.2.2 sz) {out : Int × V_} : ∀ (n : Nat) (x0 x1 x2 x3 : Int) (v : V_), (E.2.2.2.2.2 x0 ∧ ty_ x0 = 5 ∧ ln_ x0 = 0) → fX5_liveAtBeginning_31 n x0 x1 x2 x3 v = some out → G_ E p l e (rm_ 2 40) s m args below meth c 5 sz (Q_ E below args s sz sz 0 out.1 out.2) 31 [(0, (2, x0)), (1, (0, x1)), (2, (0, x2)), (3, (0, x3))] [] v sz := by
  intro n
  induction n with
  | zero =>
    intro x0 x1 x2 x3 v T0 h
    cases h
  | succ n H_31 =>
    intro x0 x1 x2 x3 v T0 h
    rw [fX5_liveAtBeginning_31] at h
    refine g_iload_n C (f := 3) dX5_liveAtBeginning_31 3 rfl ?_
    refine g_iconst C (n := 2) dX5_liveAtBeginning_32 (by decide) ?_
    refine g_icmp_ge C 73 dX5_liveAtBeginning_33 rfl (fun c9 => ?_) (fun c9 => ?_)
    · replace h := if_t h c9
      refine g_aload_n C (f := 0) dX5_liveAtBeginning_73 0 rfl ?_
      have F10 := fX5_1 hC T0.1 T0.2.1
      refine g_getR C (k := 1) (o := 1) okX5 (by decide) kf_RX5_9 dX5_liveAtBeginning_74 hC T0.1 T0.2.1 rfl rfl ?_
      refine g_iload_n C (f := 1) dX5_liveAtBeginning_77 1 rfl ?_
      obtain ⟨c11, h⟩ := ck_e h
      refine g_iald C 8 dX5_liveAtBeginning_78 (rg_ hC F10.1) F10.2.1 F10.2.2 c11 ?_
      refine g_iconst C (n := 1) dX5_liveAtBeginning_79 (by decide) ?_
      refine g_isub C dX5_liveAtBeginning_80 ?_
      obtain ⟨y12, ey12, h⟩ := lt_e h
      refine g_set C ey12 ?_
      refine g_istore_n C (f := 3) (ls' := [(3, (0, y12)), (0, (2, x0)), (1, (0, x1)), (2, (0, x2))]) dX5_liveAtBeginning_81 (by decide) rfl ?_
      refine g_sub [1, 2, 3, 0] rfl rfl ?_
      exact tX5_liveAtBeginning_82 C hr hlk hC _ _ _ _ _ _ T0 h
    · replace h := if_f h c9
      refine g_aload_n C (f := 0) dX5_liveAtBeginning_36 0 rfl ?_
      refine g_iload_n C (f := 1) dX5_liveAtBeginning_37 1 rfl ?_
      refine g_iload_n C (f := 3) dX5_liveAtBeginning_38 3 rfl ?_
      obtain ⟨q24, eq24, h⟩ := bd_e h
      refine g_cV C [(0, x1), (0, x3)] (cX5_leadsTo_ok l hC T0 eq24) okX5 T0.2.1 (rg_ hC T0.1) km_RX5_65 cv_X5_leadsTo rfl (by decide) rfl rfl (Nat.le_of_ble_eq_true rfl) dX5_liveAtBeginning_39 ?_
      refine g_istore C (i := 4) (ls' := [(4, (0, q24.1)), (0, (2, x0)), (1, (0, x1)), (2, (0, x2)), (3, (0, x3))]) dX5_liveAtBeginning_42 (by decide) rfl ?_
      refine g_iload_n C (f := 2) dX5_liveAtBeginning_44 3 rfl ?_
      refine g_aload_n C (f := 0) dX5_liveAtBeginning_45 1 rfl ?_
      refine g_iload C (i := 4) dX5_liveAtBeginning_46 0 rfl ?_
      obtain ⟨q25, eq25, h⟩ := bd_e h
      refine g_cV C [(0, q24.1)] (cX5_hasBlock_ok l hC T0 eq25) okX5 T0.2.1 (rg_ hC T0.1) km_RX5_69 cv_X5_hasBlock rfl (by decide) rfl rfl (Nat.le_of_ble_eq_true rfl) dX5_liveAtBeginning_48 ?_
      refine g_if_eq C 64 dX5_liveAtBeginning_51 rfl (fun c26 => ?_) (fun c26 => ?_)
      · replace h := if_t h c26
        refine g_iconst C (n := 0) dX5_liveAtBeginning_64 (by decide) ?_
        refine g_sub [1, 2, 4] rfl rfl ?_
        exact tX5_liveAtBeginning_65 C hr hlk hC _ H_31 _ _ _ _ _ _ T0 h
      · replace h := if_f h c26
        refine g_aload_n C (f := 0) dX5_liveAtBeginning_54 1 rfl ?_
        have F29 := fX5_5 hC T0.1 T0.2.1
        refine g_getR C (k := 5) (o := 5) okX5 (by decide) kf_RX5_27 dX5_liveAtBeginning_55 hC T0.1 T0.2.1 rfl rfl ?_
        refine g_iload C (i := 4) dX5_liveAtBeginning_58 0 rfl ?_
        obtain ⟨c30, h⟩ := ck_e h
        refine g_iald C 8 dX5_liveAtBeginning_60 (rg_ hC F29.1) F29.2.1 F29.2.2 c30 ?_
        refine g_goto C 65 dX5_liveAtBeginning_61 rfl ?_
        refine g_sub [1, 2, 4] rfl rfl ?_
        exact tX5_liveAtBeginning_65 C hr hlk hC _ H_31 _ _ _ _ _ _ T0 h
end
theorem cX5_liveAtBeginning_ok (l : Launch) {E : En_} {sz : Int} (hC : Cl_ E.2.2.2.2.2 sz) {x0 x1 : Int} {v : V_} {out : Int × V_} (T0 : (E.2.2.2.2.2 x0 ∧ ty_ x0 = 5 ∧ ln_ x0 = 0)) (h : fX5_liveAtBeginning x0 x1 v = some out) : Met l yX5_liveAtBeginning [.code yX5_liveAtBeginning cX5_liveAtBeginning 5 (some FieldType.int)] (rm_ 2 40) (Pc_ E sz v [(2, x0), (0, x1)]) (Qc_ E sz 0 out.1 out.2) 0 0 (fun q => E.1 < q) := by
  refine met_G0 RX5 (by decide +kernel) rfl (Nat.le_of_ble_eq_true rfl) ?_
  intro p e s m args below meth c C hr hlk
  rw [fX5_liveAtBeginning] at h
  refine g_aload_n C (f := 0) dX5_liveAtBeginning_0 0 rfl ?_
  have F1 := fX5_3 hC T0.1 T0.2.1
  refine g_getR C (k := 3) (o := 3) okX5 (by decide) kf_RX5_21 dX5_liveAtBeginning_1 hC T0.1 T0.2.1 rfl rfl ?_
  refine g_iload_n C (f := 1) dX5_liveAtBeginning_4 1 rfl ?_
  obtain ⟨c2, h⟩ := ck_e h
  have F3 := fE_ends (i := x1) hC F1.1 F1.2.1 F1.2.2 c2
  refine g_aald C 25 8 53 1 dX5_liveAtBeginning_5 hC F1.1 F1.2.1 F1.2.2 c2 (by decide) oA_ends ?_
  refine g_getf C (k := 0) (kd := 0) okX8 (by decide) kf_RX5_58 dX5_liveAtBeginning_6 (rg_ hC F3.1) F3.2.1 rfl ?_
  refine g_bipush C (n := 9) dX5_liveAtBeginning_9 (by decide) ?_
  refine g_icmp_ne C 19 dX5_liveAtBeginning_11 rfl (fun c4 => ?_) (fun c4 => ?_)
  · replace h := if_f h c4
    refine g_aload_n C (f := 0) dX5_liveAtBeginning_19 0 rfl ?_
    have F5 := fX5_3 hC T0.1 T0.2.1
    refine g_getR C (k := 3) (o := 3) okX5 (by decide) kf_RX5_21 dX5_liveAtBeginning_20 hC T0.1 T0.2.1 rfl rfl ?_
    refine g_iload_n C (f := 1) dX5_liveAtBeginning_23 1 rfl ?_
    obtain ⟨c6, h⟩ := ck_e h
    have F7 := fE_ends (i := x1) hC F5.1 F5.2.1 F5.2.2 c6
    refine g_aald C 25 8 53 1 dX5_liveAtBeginning_24 hC F5.1 F5.2.1 F5.2.2 c6 (by decide) oA_ends ?_
    obtain ⟨q8, eq8, h⟩ := bd_e h
    refine g_cV C [] (cX8_registersRead_ok l hC F7 eq8) okX8 F7.2.1 (rg_ hC F7.1) km_RX5_61 cv_X8_registersRead rfl (by decide) rfl rfl (Nat.le_of_ble_eq_true rfl) dX5_liveAtBeginning_25 ?_
    refine g_istore_n C (f := 2) (ls' := [(2, (0, q8.1)), (0, (2, x0)), (1, (0, x1))]) dX5_liveAtBeginning_28 (by decide) rfl ?_
    refine g_iconst C (n := 0) dX5_liveAtBeginning_29 (by decide) ?_
    refine g_istore_n C (f := 3) (ls' := [(3, (0, 0)), (2, (0, q8.1)), (0, (2, x0)), (1, (0, x1))]) dX5_liveAtBeginning_30 (by decide) rfl ?_
    refine g_sub [2, 3, 1, 0] rfl rfl ?_
    exact tX5_liveAtBeginning_31 C hr hlk hC _ _ _ _ _ _ T0 h
  · replace h := if_t h c4
    refine g_bipush C (n := 63) dX5_liveAtBeginning_14 (by decide) ?_
    refine g_goto C 28 dX5_liveAtBeginning_16 rfl ?_
    refine g_istore_n C (f := 2) (ls' := [(2, (0, 63)), (0, (2, x0)), (1, (0, x1))]) dX5_liveAtBeginning_28 (by decide) rfl ?_
    refine g_iconst C (n := 0) dX5_liveAtBeginning_29 (by decide) ?_
    refine g_istore_n C (f := 3) (ls' := [(3, (0, 0)), (2, (0, 63)), (0, (2, x0)), (1, (0, x1))]) dX5_liveAtBeginning_30 (by decide) rfl ?_
    refine g_sub [2, 3, 1, 0] rfl rfl ?_
    exact tX5_liveAtBeginning_31 C hr hlk hC _ _ _ _ _ _ T0 h
theorem dX5_findLive_0 : decode cX5_findLive 0 = .ok (.aload_n 0, 1) := by decide +kernel
theorem dX5_findLive_1 : decode cX5_findLive 1 = .ok (.getfield 27, 3) := by decide +kernel
theorem dX5_findLive_4 : decode cX5_findLive 4 = .ok (.iconst 0, 1) := by decide +kernel
theorem dX5_findLive_5 : decode cX5_findLive 5 = .ok (.invokestatic 44, 3) := by decide +kernel
theorem dX5_findLive_8 : decode cX5_findLive 8 = .ok (.iconst 1, 1) := by decide +kernel
theorem dX5_findLive_9 : decode cX5_findLive 9 = .ok (.istore_n 1, 1) := by decide +kernel
theorem dX5_findLive_10 : decode cX5_findLive 10 = .ok (.iconst 0, 1) := by decide +kernel
theorem dX5_findLive_11 : decode cX5_findLive 11 = .ok (.istore_n 2, 1) := by decide +kernel
theorem dX5_findLive_12 : decode cX5_findLive 12 = .ok (.iload_n 1, 1) := by decide +kernel
theorem dX5_findLive_13 : decode cX5_findLive 13 = .ok (.ifCond .eq 70, 3) := by decide +kernel
theorem dX5_findLive_16 : decode cX5_findLive 16 = .ok (.iload_n 2, 1) := by decide +kernel
theorem dX5_findLive_17 : decode cX5_findLive 17 = .ok (.bipush 48, 2) := by decide +kernel
theorem dX5_findLive_19 : decode cX5_findLive 19 = .ok (.if_icmp .gt 64, 3) := by decide +kernel
theorem dX5_findLive_22 : decode cX5_findLive 22 = .ok (.iconst 0, 1) := by decide +kernel
theorem dX5_findLive_23 : decode cX5_findLive 23 = .ok (.istore_n 1, 1) := by decide +kernel
theorem dX5_findLive_24 : decode cX5_findLive 24 = .ok (.aload_n 0, 1) := by decide +kernel
theorem dX5_findLive_25 : decode cX5_findLive 25 = .ok (.getfield 40, 3) := by decide +kernel
theorem dX5_findLive_28 : decode cX5_findLive 28 = .ok (.iconst 1, 1) := by decide +kernel
theorem dX5_findLive_29 : decode cX5_findLive 29 = .ok (.isub, 1) := by decide +kernel
theorem dX5_findLive_30 : decode cX5_findLive 30 = .ok (.istore_n 3, 1) := by decide +kernel
theorem dX5_findLive_31 : decode cX5_findLive 31 = .ok (.iload_n 3, 1) := by decide +kernel
theorem dX5_findLive_32 : decode cX5_findLive 32 = .ok (.ifCond .lt 45, 3) := by decide +kernel
theorem dX5_findLive_35 : decode cX5_findLive 35 = .ok (.aload_n 0, 1) := by decide +kernel
theorem dX5_findLive_36 : decode cX5_findLive 36 = .ok (.iload_n 3, 1) := by decide +kernel
theorem dX5_findLive_37 : decode cX5_findLive 37 = .ok (.invokevirtual 54, 3) := by decide +kernel
theorem dX5_findLive_40 : decode cX5_findLive 40 = .ok (.istore 4, 2) := by decide +kernel
theorem dX5_findLive_42 : decode cX5_findLive 42 = .ok (.iload_n 1, 1) := by decide +kernel
theorem dX5_findLive_43 : decode cX5_findLive 43 = .ok (.ifCond .ne 14, 3) := by decide +kernel
theorem dX5_findLive_46 : decode cX5_findLive 46 = .ok (.iload 4, 2) := by decide +kernel
theorem dX5_findLive_48 : decode cX5_findLive 48 = .ok (.aload_n 0, 1) := by decide +kernel
theorem dX5_findLive_49 : decode cX5_findLive 49 = .ok (.getfield 27, 3) := by decide +kernel
theorem dX5_findLive_52 : decode cX5_findLive 52 = .ok (.iload_n 3, 1) := by decide +kernel
theorem dX5_findLive_53 : decode cX5_findLive 53 = .ok (.iaload, 1) := by decide +kernel
theorem dX5_findLive_54 : decode cX5_findLive 54 = .ok (.if_icmp .eq 7, 3) := by decide +kernel
theorem dX5_findLive_57 : decode cX5_findLive 57 = .ok (.iconst 1, 1) := by decide +kernel
theorem dX5_findLive_58 : decode cX5_findLive 58 = .ok (.goto 4, 3) := by decide +kernel
theorem dX5_findLive_61 : decode cX5_findLive 61 = .ok (.iconst 0, 1) := by decide +kernel
theorem dX5_findLive_62 : decode cX5_findLive 62 = .ok (.istore_n 1, 1) := by decide +kernel
theorem dX5_findLive_63 : decode cX5_findLive 63 = .ok (.aload_n 0, 1) := by decide +kernel
theorem dX5_findLive_64 : decode cX5_findLive 64 = .ok (.getfield 27, 3) := by decide +kernel
theorem dX5_findLive_67 : decode cX5_findLive 67 = .ok (.iload_n 3, 1) := by decide +kernel
theorem dX5_findLive_68 : decode cX5_findLive 68 = .ok (.iload 4, 2) := by decide +kernel
theorem dX5_findLive_70 : decode cX5_findLive 70 = .ok (.iastore, 1) := by decide +kernel
theorem dX5_findLive_71 : decode cX5_findLive 71 = .ok (.iinc 3 (-1), 3) := by decide +kernel
theorem dX5_findLive_74 : decode cX5_findLive 74 = .ok (.goto (-43), 3) := by decide +kernel
theorem dX5_findLive_77 : decode cX5_findLive 77 = .ok (.iinc 2 1, 3) := by decide +kernel
theorem dX5_findLive_80 : decode cX5_findLive 80 = .ok (.goto (-68), 3) := by decide +kernel
theorem dX5_findLive_83 : decode cX5_findLive 83 = .ok (.return_, 1) := by decide +kernel
def fX5_findLive_62 (k12 : Int → Int → Int → V_ → Option (Int × V_)) (k31 : Int → Int → Int → Int → V_ → Option (Int × V_)) (x0 x2 x3 x4 s0 : Int) (v : V_) : Option (Int × V_) :=
  ck_ (0 ≤ x3 ∧ x3 < 8) (
  lt_ (up_ v (x0 + 5) x3 x4) fun v12 =>
  lt_ (wr_ (x3 + (-1))) fun y13 =>
  k31 x0 s0 x2 y13 v12)
def fX5_findLive_57 (k12 : Int → Int → Int → V_ → Option (Int × V_)) (k31 : Int → Int → Int → Int → V_ → Option (Int × V_)) (x0 x2 x3 x4 : Int) (v : V_) : Option (Int × V_) :=
  fX5_findLive_62 k12 k31 x0 x2 x3 x4 1 v
def fX5_findLive_31 (k12 : Int → Int → Int → V_ → Option (Int × V_)) : Nat → Int → Int → Int → Int → V_ → Option (Int × V_)
  | 0, _, _, _, _, _ => none
  | n + 1, x0, x1, x2, x3, v =>
    if x3 < 0 then (
      lt_ (wr_ (x2 + 1)) fun y7 =>
      k12 x0 x1 y7 v)
    else (
      bd_ (fX5_liveAtBeginning x0 x3 v) fun q8 =>
      if x1 = 0 then (
        ck_ (0 ≤ x3 ∧ x3 < 8) (
        if q8.1 = (q8.2 (x0 + 5) x3) then (
          fX5_findLive_62 k12 (fX5_findLive_31 k12 n) x0 x2 x3 q8.1 0 q8.2)
        else (
          fX5_findLive_57 k12 (fX5_findLive_31 k12 n) x0 x2 x3 q8.1 q8.2)))
      else (
        fX5_findLive_57 k12 (fX5_findLive_31 k12 n) x0 x2 x3 q8.1 q8.2))
def fX5_findLive_12 : Nat → Int → Int → Int → V_ → Option (Int × V_)
  | 0, _, _, _, _ => none
  | n + 1, x0, x1, x2, v =>
    if x1 = 0 then (
      some (0, v))
    else (
      if 48 < x2 then (
        some (0, v))
      else (
        lt_ (wr_ ((v x0 0) - 1)) fun y5 =>
        fX5_findLive_31 (fX5_findLive_12 n) fu_ x0 0 x2 y5 v))
def fX5_findLive (x0 : Int) (v : V_) : Option (Int × V_) :=
  lt_ (fl_ v (x0 + 5) 8 0) fun v2 =>
  fX5_findLive_12 fu_ x0 1 0 v2
section
variable {E : En_} {p : Program} {l : Launch} {e : Env} {s : State} {m : MethodId} {args : Array Value} {below : List Frame} {meth : Method} {c : Code} {sz : Int}
theorem tX5_findLive_62 (C : MC_ E p s m c cX5_findLive 5 RX5) (hr : meth.sig.returnType = (none : Option FieldType)) (hlk : meth.locks = false) (hC : Cl_ E.2.2.2.2.2 sz) {out : Int × V_} (k12 : Int → Int → Int → V_ → Option (Int × V_)) (H_12 : ∀ (x0 x1 x2 : Int) (v : V_), (E.2.2.2.2.2 x0 ∧ ty_ x0 = 5 ∧ ln_ x0 = 0) → k12 x0 x1 x2 v = some out → G_ E p l e (rm_ 3 64) s m args below meth c 5 sz (Q_ E below args s sz sz 9 out.1 out.2) 12 [(0, (2, x0)), (1, (0, x1)), (2, (0, x2))] [] v sz) (k31 : Int → Int → Int → Int → V_ → Option (Int × V_)) (H_31 : ∀ (x0 x1 x2 x3 : Int) (v : V_), (E.2.2.2.2.2 x0 ∧ ty_ x0 = 5 ∧ ln_ x0 = 0) → k31 x0 x1 x2 x3 v = some out → G_ E p l e (rm_ 3 64) s m args below meth c 5 sz (Q_ E below args s sz sz 9 out.1 out.2) 31 [(0, (2, x0)), (1, (0, x1)), (2, (0, x2)), (3, (0, x3))] [] v sz) (x0 x2 x3 x4 s0 : Int) (v : V_) (T0 : (E.2.2.2.2.2 x0 ∧ ty_ x0 = 5 ∧ ln_ x0 = 0)) (h : fX5_findLive_62 k12 k31 x0 x2 x3 x4 s0 v = some out) : G_ E p l e (rm_ 3 64) s m args below meth c 5 sz (Q_ E below args s sz sz 9 out.1 out.2) 62 [(0, (2, x0)), (2, (0, x2)), (3, (0, x3)), (4, (0, x4))] [(0, s0)] v sz := by
  rw [fX5_findLive_62] at h
  refine g_istore_n C (f := 1) (ls' := [(1, (0, s0)), (0, (2, x0)), (2, (0, x2)), (3, (0, x3)), (4, (0, x4))]) dX5_findLive_62 (by decide) rfl ?_
  refine g_aload_n C (f := 0) dX5_findLive_63 1 rfl ?_
  have F10 := fX5_5 hC T0.1 T0.2.1
  refine g_getR C (k := 5) (o := 5) okX5 (by decide) kf_RX5_27 dX5_findLive_64 hC T0.1 T0.2.1 rfl rfl ?_
  refine g_iload_n C (f := 3) dX5_findLive_67 3 rfl ?_
  refine g_iload C (i := 4) dX5_findLive_68 4 rfl ?_
  obtain ⟨c11, h⟩ := ck_e h
  obtain ⟨v12, ev12, h⟩ := lt_e h
  refine g_iast C 8 dX5_findLive_70 (rg_ hC F10.1) F10.2.1 F10.2.2 c11 v12 ev12 ?_
  obtain ⟨y13, ey13, h⟩ := lt_e h
  refine g_iincx C (ls' := [(3, (0, y13)), (1, (0, s0)), (0, (2, x0)), (2, (0, x2)), (4, (0, x4))]) ey13 dX5_findLive_71 3 rfl (by decide) (by decide) rfl ?_
  refine g_goto C 31 dX5_findLive_74 rfl ?_
  refine g_sub [2, 1, 3, 0] rfl rfl ?_
  exact H_31 _ _ _ _ _ T0 h
theorem tX5_findLive_57 (C : MC_ E p s m c cX5_findLive 5 RX5) (hr : meth.sig.returnType = (none : Option FieldType)) (hlk : meth.locks = false) (hC : Cl_ E.2.2.2.2.2 sz) {out : Int × V_} (k12 : Int → Int → Int → V_ → Option (Int × V_)) (H_12 : ∀ (x0 x1 x2 : Int) (v : V_), (E.2.2.2.2.2 x0 ∧ ty_ x0 = 5 ∧ ln_ x0 = 0) → k12 x0 x1 x2 v = some out → G_ E p l e (rm_ 3 64) s m args below meth c 5 sz (Q_ E below args s sz sz 9 out.1 out.2) 12 [(0, (2, x0)), (1, (0, x1)), (2, (0, x2))] [] v sz) (k31 : Int → Int → Int → Int → V_ → Option (Int × V_)) (H_31 : ∀ (x0 x1 x2 x3 : Int) (v : V_), (E.2.2.2.2.2 x0 ∧ ty_ x0 = 5 ∧ ln_ x0 = 0) → k31 x0 x1 x2 x3 v = some out → G_ E p l e (rm_ 3 64) s m args below meth c 5 sz (Q_ E below args s sz sz 9 out.1 out.2) 31 [(0, (2, x0)), (1, (0, x1)), (2, (0, x2)), (3, (0, x3))] [] v sz) (x0 x2 x3 x4 : Int) (v : V_) (T0 : (E.2.2.2.2.2 x0 ∧ ty_ x0 = 5 ∧ ln_ x0 = 0)) (h : fX5_findLive_57 k12 k31 x0 x2 x3 x4 v = some out) : G_ E p l e (rm_ 3 64) s m args below meth c 5 sz (Q_ E below args s sz sz 9 out.1 out.2) 57 [(0, (2, x0)), (2, (0, x2)), (3, (0, x3)), (4, (0, x4))] [] v sz := by
  rw [fX5_findLive_57] at h
  refine g_iconst C (n := 1) dX5_findLive_57 (by decide) ?_
  refine g_goto C 62 dX5_findLive_58 rfl ?_
  refine g_sub [0, 1, 2, 3] rfl rfl ?_
  exact tX5_findLive_62 C hr hlk hC _ H_12 _ H_31 _ _ _ _ _ _ T0 h
theorem tX5_findLive_31 (C : MC_ E p s m c cX5_findLive 5 RX5) (hr : meth.sig.returnType = (none : Option FieldType)) (hlk : meth.locks = false) (hC : Cl_ E.2.2.2.2.2 sz) {out : Int × V_} (k12 : Int → Int → Int → V_ → Option (Int × V_)) (H_12 : ∀ (x0 x1 x2 : Int) (v : V_), (E.2.2.2.2.2 x0 ∧ ty_ x0 = 5 ∧ ln_ x0 = 0) → k12 x0 x1 x2 v = some out → G_ E p l e (rm_ 3 64) s m args below meth c 5 sz (Q_ E below args s sz sz 9 out.1 out.2) 12 [(0, (2, x0)), (1, (0, x1)), (2, (0, x2))] [] v sz) : ∀ (n : Nat) (x0 x1 x2 x3 : Int) (v : V_), (E.2.2.2.2.2 x0 ∧ ty_ x0 = 5 ∧ ln_ x0 = 0) → fX5_findLive_31 k12 n x0 x1 x2 x3 v = some out → G_ E p l e (rm_ 3 64) s m args below meth c 5 sz (Q_ E below args s sz sz 9 out.1 out.2) 31 [(0, (2, x0)), (1, (0, x1)), (2, (0, x2)), (3, (0, x3))] [] v sz := by
  intro n
  induction n with
  | zero =>
    intro x0 x1 x2 x3 v T0 h
    cases h
  | succ n H_31 =>
    intro x0 x1 x2 x3 v T0 h
    rw [fX5_findLive_31] at h
    refine g_iload_n C (f := 3) dX5_findLive_31 3 rfl ?_
    refine g_if_lt C 77 dX5_findLive_32 rfl (fun c6 => ?_) (fun c6 => ?_)
    · replace h := if_t h c6
      obtain ⟨y7, ey7, h⟩ := lt_e h
      refine g_iincx C (ls' := [(2, (0, y7)), (0, (2, x0)), (1, (0, x1)), (3, (0, x3))]) ey7 dX5_findLive_77 2 rfl (by decide) (by decide) rfl ?_
      refine g_goto C 12 dX5_findLive_80 rfl ?_
      refine g_sub [1, 2, 0] rfl rfl ?_
      exact H_12 _ _ _ _ T0 h
    · replace h := if_f h c6
      refine g_aload_n C (f := 0) dX5_findLive_35 0 rfl ?_
      refine g_iload_n C (f := 3) dX5_findLive_36 3 rfl ?_
      obtain ⟨q8, eq8, h⟩ := bd_e h
      refine g_cV C [(0, x3)] (cX5_liveAtBeginning_ok l hC T0 eq8) okX5 T0.2.1 (rg_ hC T0.1) km_RX5_54 cv_X5_liveAtBeginning rfl (by decide) rfl rfl (Nat.le_of_ble_eq_true rfl) dX5_findLive_37 ?_
      refine g_istore C (i := 4) (ls' := [(4, (0, q8.1)), (0, (2, x0)), (1, (0, x1)), (2, (0, x2)), (3, (0, x3))]) dX5_findLive_40 (by decide) rfl ?_
      refine g_iload_n C (f := 1) dX5_findLive_42 2 rfl ?_
      refine g_if_ne C 57 dX5_findLive_43 rfl (fun c9 => ?_) (fun c9 => ?_)
      · replace h := if_f h c9
        refine g_sub [1, 3, 4, 0] rfl rfl ?_
        exact tX5_findLive_57 C hr hlk hC _ H_12 _ H_31 _ _ _ _ _ T0 h
      · replace h := if_t h c9
        refine g_iload C (i := 4) dX5_findLive_46 0 rfl ?_
        refine g_aload_n C (f := 0) dX5_findLive_48 1 rfl ?_
        have F14 := fX5_5 hC T0.1 T0.2.1
        refine g_getR C (k := 5) (o := 5) okX5 (by decide) kf_RX5_27 dX5_findLive_49 hC T0.1 T0.2.1 rfl rfl ?_
        refine g_iload_n C (f := 3) dX5_findLive_52 4 rfl ?_
        obtain ⟨c15, h⟩ := ck_e h
        refine g_iald C 8 dX5_findLive_53 (rg_ hC F14.1) F14.2.1 F14.2.2 c15 ?_
        refine g_icmp_eq C 61 dX5_findLive_54 rfl (fun c16 => ?_) (fun c16 => ?_)
        · replace h := if_t h c16
          refine g_iconst C (n := 0) dX5_findLive_61 (by decide) ?_
          refine g_sub [1, 3, 4, 0] rfl rfl ?_
          exact tX5_findLive_62 C hr hlk hC _ H_12 _ H_31 _ _ _ _ _ _ T0 h
        · replace h := if_f h c16
          refine g_sub [1, 3, 4, 0] rfl rfl ?_
          exact tX5_findLive_57 C hr hlk hC _ H_12 _ H_31 _ _ _ _ _ T0 h
theorem tX5_findLive_12 (C : MC_ E p s m c cX5_findLive 5 RX5) (hr : meth.sig.returnType = (none : Option FieldType)) (hlk : meth.locks = false) (hC : Cl_ E.2.2.2.2.2 sz) {out : Int × V_} : ∀ (n : Nat) (x0 x1 x2 : Int) (v : V_), (E.2.2.2.2.2 x0 ∧ ty_ x0 = 5 ∧ ln_ x0 = 0) → fX5_findLive_12 n x0 x1 x2 v = some out → G_ E p l e (rm_ 3 64) s m args below meth c 5 sz (Q_ E below args s sz sz 9 out.1 out.2) 12 [(0, (2, x0)), (1, (0, x1)), (2, (0, x2))] [] v sz := by
  intro n
  induction n with
  | zero =>
    intro x0 x1 x2 v T0 h
    cases h
  | succ n H_12 =>
    intro x0 x1 x2 v T0 h
    rw [fX5_findLive_12] at h
    refine g_iload_n C (f := 1) dX5_findLive_12 1 rfl ?_
    refine g_if_eq C 83 dX5_findLive_13 rfl (fun c3 => ?_) (fun c3 => ?_)
    · replace h := if_t h c3
      cases h
      exact g_vret C dX5_findLive_83 hr hlk
    · replace h := if_f h c3
      refine g_iload_n C (f := 2) dX5_findLive_16 2 rfl ?_
      refine g_bipush C (n := 48) dX5_findLive_17 (by decide) ?_
      refine g_icmp_gt C 83 dX5_findLive_19 rfl (fun c4 => ?_) (fun c4 => ?_)
      · replace h := if_t h c4
        cases h
        exact g_vret C dX5_findLive_83 hr hlk
      · replace h := if_f h c4
        refine g_iconst C (n := 0) dX5_findLive_22 (by decide) ?_
        refine g_istore_n C (f := 1) (ls' := [(1, (0, 0)), (0, (2, x0)), (2, (0, x2))]) dX5_findLive_23 (by decide) rfl ?_
        refine g_aload_n C (f := 0) dX5_findLive_24 1 rfl ?_
        refine g_getf C (k := 0) (kd := 0) okX5 (by decide) kf_RX5_40 dX5_findLive_25 (rg_ hC T0.1) T0.2.1 rfl ?_
        refine g_iconst C (n := 1) dX5_findLive_28 (by decide) ?_
        refine g_isub C dX5_findLive_29 ?_
        obtain ⟨y5, ey5, h⟩ := lt_e h
        refine g_set C ey5 ?_
        refine g_istore_n C (f := 3) (ls' := [(3, (0, y5)), (1, (0, 0)), (0, (2, x0)), (2, (0, x2))]) dX5_findLive_30 (by decide) rfl ?_
        refine g_sub [2, 1, 3, 0] rfl rfl ?_
        exact tX5_findLive_31 C hr hlk hC _ H_12 _ _ _ _ _ _ T0 h
end
theorem cX5_findLive_ok (l : Launch) {E : En_} {sz : Int} (hC : Cl_ E.2.2.2.2.2 sz) {x0 : Int} {v : V_} {out : Int × V_} (T0 : (E.2.2.2.2.2 x0 ∧ ty_ x0 = 5 ∧ ln_ x0 = 0)) (h : fX5_findLive x0 v = some out) : Met l yX5_findLive [.code yX5_findLive cX5_findLive 5 (none : Option FieldType)] (rm_ 3 64) (Pc_ E sz v [(2, x0)]) (Qc_ E sz 9 out.1 out.2) 0 0 (fun q => E.1 < q) := by
  refine met_G0 RX5 (by decide +kernel) rfl (Nat.le_of_ble_eq_true rfl) ?_
  intro p e s m args below meth c C hr hlk
  rw [fX5_findLive] at h
  refine g_aload_n C (f := 0) dX5_findLive_0 0 rfl ?_
  have F1 := fX5_5 hC T0.1 T0.2.1
  refine g_getR C (k := 5) (o := 5) okX5 (by decide) kf_RX5_27 dX5_findLive_1 hC T0.1 T0.2.1 rfl rfl ?_
  refine g_iconst C (n := 0) dX5_findLive_4 (by decide) ?_
  obtain ⟨v2, ev2, h⟩ := lt_e h
  refine g_cS C [(2, x0 + 5), (0, 0)] (c_fillI l (rg_ hC F1.1) F1.2.1 F1.2.2 (by decide)) km_RX5_44 cs_FillI rfl (by decide) rfl rfl (Nat.le_of_ble_eq_true rfl) dX5_findLive_5 ?_
  refine g_setv C ev2 ?_
  refine g_iconst C (n := 1) dX5_findLive_8 (by decide) ?_
  refine g_istore_n C (f := 1) (ls' := [(1, (0, 1)), (0, (2, x0))]) dX5_findLive_9 (by decide) rfl ?_
  refine g_iconst C (n := 0) dX5_findLive_10 (by decide) ?_
  refine g_istore_n C (f := 2) (ls' := [(2, (0, 0)), (1, (0, 1)), (0, (2, x0))]) dX5_findLive_11 (by decide) rfl ?_
  refine g_sub [2, 1, 0] rfl rfl ?_
  exact tX5_findLive_12 C hr hlk hC _ _ _ _ _ T0 h
theorem dX7_cellAt_0 : decode cX7_cellAt 0 = .ok (.aload_n 0, 1) := by decide +kernel
theorem dX7_cellAt_1 : decode cX7_cellAt 1 = .ok (.getfield 11, 3) := by decide +kernel
theorem dX7_cellAt_4 : decode cX7_cellAt 4 = .ok (.bipush 6, 2) := by decide +kernel
theorem dX7_cellAt_6 : decode cX7_cellAt 6 = .ok (.iload_n 1, 1) := by decide +kernel
theorem dX7_cellAt_7 : decode cX7_cellAt 7 = .ok (.iadd, 1) := by decide +kernel
theorem dX7_cellAt_8 : decode cX7_cellAt 8 = .ok (.iaload, 1) := by decide +kernel
theorem dX7_cellAt_9 : decode cX7_cellAt 9 = .ok (.ireturn, 1) := by decide +kernel
def fX7_cellAt (x0 x1 : Int) (v : V_) : Option (Int × V_) :=
  ck_ (0 ≤ wr_ (6 + x1) ∧ wr_ (6 + x1) < 47) (
  some (v (x0 + 1) (wr_ (6 + x1)), v))
theorem cX7_cellAt_ok (l : Launch) {E : En_} {sz : Int} (hC : Cl_ E.2.2.2.2.2 sz) {x0 x1 : Int} {v : V_} {out : Int × V_} (T0 : (E.2.2.2.2.2 x0 ∧ ty_ x0 = 7 ∧ ln_ x0 = 0)) (h : fX7_cellAt x0 x1 v = some out) : Met l yX7_cellAt [.code yX7_cellAt cX7_cellAt 2 (some FieldType.int)] (rm_ 0 0) (Pc_ E sz v [(2, x0), (0, x1)]) (Qc_ E sz 0 out.1 out.2) 0 0 (fun q => E.1 < q) := by
  refine met_G0 RX7 (by decide +kernel) rfl (Nat.le_of_ble_eq_true rfl) ?_
  intro p e s m args below meth c C hr hlk
  rw [fX7_cellAt] at h
  refine g_aload_n C (f := 0) dX7_cellAt_0 0 rfl ?_
  have F1 := fX7_0 hC T0.1 T0.2.1
  refine g_getR C (k := 0) (o := 1) okX7 (by decide) kf_RX7_11 dX7_cellAt_1 hC T0.1 T0.2.1 rfl rfl ?_
  refine g_bipush C (n := 6) dX7_cellAt_4 (by decide) ?_
  refine g_iload_n C (f := 1) dX7_cellAt_6 1 rfl ?_
  refine g_iadd C dX7_cellAt_7 ?_
  obtain ⟨c2, h⟩ := ck_e h
  refine g_iald C 47 dX7_cellAt_8 (rg_ hC F1.1) F1.2.1 F1.2.2 c2 ?_
  cases h
  exact g_iret C dX7_cellAt_9 hr hlk
theorem dX7_register_0 : decode cX7_register 0 = .ok (.aload_n 0, 1) := by decide +kernel
theorem dX7_register_1 : decode cX7_register 1 = .ok (.getfield 11, 3) := by decide +kernel
theorem dX7_register_4 : decode cX7_register 4 = .ok (.iload_n 1, 1) := by decide +kernel
theorem dX7_register_5 : decode cX7_register 5 = .ok (.iaload, 1) := by decide +kernel
theorem dX7_register_6 : decode cX7_register 6 = .ok (.ireturn, 1) := by decide +kernel
def fX7_register (x0 x1 : Int) (v : V_) : Option (Int × V_) :=
  ck_ (0 ≤ x1 ∧ x1 < 47) (
  some (v (x0 + 1) x1, v))
theorem cX7_register_ok (l : Launch) {E : En_} {sz : Int} (hC : Cl_ E.2.2.2.2.2 sz) {x0 x1 : Int} {v : V_} {out : Int × V_} (T0 : (E.2.2.2.2.2 x0 ∧ ty_ x0 = 7 ∧ ln_ x0 = 0)) (h : fX7_register x0 x1 v = some out) : Met l yX7_register [.code yX7_register cX7_register 2 (some FieldType.int)] (rm_ 0 0) (Pc_ E sz v [(2, x0), (0, x1)]) (Qc_ E sz 0 out.1 out.2) 0 0 (fun q => E.1 < q) := by
  refine met_G0 RX7 (by decide +kernel) rfl (Nat.le_of_ble_eq_true rfl) ?_
  intro p e s m args below meth c C hr hlk
  rw [fX7_register] at h
  refine g_aload_n C (f := 0) dX7_register_0 0 rfl ?_
  have F1 := fX7_0 hC T0.1 T0.2.1
  refine g_getR C (k := 0) (o := 1) okX7 (by decide) kf_RX7_11 dX7_register_1 hC T0.1 T0.2.1 rfl rfl ?_
  refine g_iload_n C (f := 1) dX7_register_4 1 rfl ?_
  obtain ⟨c2, h⟩ := ck_e h
  refine g_iald C 47 dX7_register_5 (rg_ hC F1.1) F1.2.1 F1.2.2 c2 ?_
  cases h
  exact g_iret C dX7_register_6 hr hlk
