theorem dX3_takeUpTo_0 : decode cX3_takeUpTo 0 = .ok (.aload_n 0, 1) := by decide +kernel
theorem dX3_takeUpTo_1 : decode cX3_takeUpTo 1 = .ok (.getfield 12, 3) := by decide +kernel
theorem dX3_takeUpTo_4 : decode cX3_takeUpTo 4 = .ok (.aload_n 0, 1) := by decide +kernel
theorem dX3_takeUpTo_5 : decode cX3_takeUpTo 5 = .ok (.getfield 44, 3) := by decide +kernel
theorem dX3_takeUpTo_8 : decode cX3_takeUpTo 8 = .ok (.invokevirtual 81, 3) := by decide +kernel
theorem dX3_takeUpTo_11 : decode cX3_takeUpTo 11 = .ok (.istore_n 2, 1) := by decide +kernel
theorem dX3_takeUpTo_12 : decode cX3_takeUpTo 12 = .ok (.aload_n 0, 1) := by decide +kernel
theorem dX3_takeUpTo_13 : decode cX3_takeUpTo 13 = .ok (.getfield 12, 3) := by decide +kernel
theorem dX3_takeUpTo_16 : decode cX3_takeUpTo 16 = .ok (.aload_n 0, 1) := by decide +kernel
theorem dX3_takeUpTo_17 : decode cX3_takeUpTo 17 = .ok (.getfield 44, 3) := by decide +kernel
theorem dX3_takeUpTo_20 : decode cX3_takeUpTo 20 = .ok (.invokevirtual 103, 3) := by decide +kernel
theorem dX3_takeUpTo_23 : decode cX3_takeUpTo 23 = .ok (.l2i, 1) := by decide +kernel
theorem dX3_takeUpTo_24 : decode cX3_takeUpTo 24 = .ok (.istore_n 3, 1) := by decide +kernel
theorem dX3_takeUpTo_25 : decode cX3_takeUpTo 25 = .ok (.aload_n 0, 1) := by decide +kernel
theorem dX3_takeUpTo_26 : decode cX3_takeUpTo 26 = .ok (.bipush 18, 2) := by decide +kernel
theorem dX3_takeUpTo_28 : decode cX3_takeUpTo 28 = .ok (.invokevirtual 94, 3) := by decide +kernel
theorem dX3_takeUpTo_31 : decode cX3_takeUpTo 31 = .ok (.aload_n 0, 1) := by decide +kernel
theorem dX3_takeUpTo_32 : decode cX3_takeUpTo 32 = .ok (.getfield 48, 3) := by decide +kernel
theorem dX3_takeUpTo_35 : decode cX3_takeUpTo 35 = .ok (.ifCond .ne 19, 3) := by decide +kernel
theorem dX3_takeUpTo_38 : decode cX3_takeUpTo 38 = .ok (.iload_n 3, 1) := by decide +kernel
theorem dX3_takeUpTo_39 : decode cX3_takeUpTo 39 = .ok (.iconst 1, 1) := by decide +kernel
theorem dX3_takeUpTo_40 : decode cX3_takeUpTo 40 = .ok (.if_icmp .lt 8, 3) := by decide +kernel
theorem dX3_takeUpTo_43 : decode cX3_takeUpTo 43 = .ok (.iload_n 3, 1) := by decide +kernel
theorem dX3_takeUpTo_44 : decode cX3_takeUpTo 44 = .ok (.iload_n 1, 1) := by decide +kernel
theorem dX3_takeUpTo_45 : decode cX3_takeUpTo 45 = .ok (.if_icmp .le 9, 3) := by decide +kernel
theorem dX3_takeUpTo_48 : decode cX3_takeUpTo 48 = .ok (.aload_n 0, 1) := by decide +kernel
theorem dX3_takeUpTo_49 : decode cX3_takeUpTo 49 = .ok (.iconst 5, 1) := by decide +kernel
theorem dX3_takeUpTo_50 : decode cX3_takeUpTo 50 = .ok (.iload_n 2, 1) := by decide +kernel
theorem dX3_takeUpTo_51 : decode cX3_takeUpTo 51 = .ok (.invokevirtual 107, 3) := by decide +kernel
theorem dX3_takeUpTo_54 : decode cX3_takeUpTo 54 = .ok (.iload_n 3, 1) := by decide +kernel
theorem dX3_takeUpTo_55 : decode cX3_takeUpTo 55 = .ok (.ireturn, 1) := by decide +kernel
def fX3_takeUpTo_48 (x0 x2 x3 : Int) (v : V_) : Option (Int × V_) :=
  bd_ (fX3_failLater x0 5 x2 v) fun q9 =>
  some (x3, q9.2)
def fX3_takeUpTo (x0 x1 : Int) (v : V_) : Option (Int × V_) :=
  bd_ (fX9_placeAt (x0 + 1) (v x0 5) v) fun q2 =>
  bd_ (fX9_valueAt (x0 + 1) (q2.2 x0 5) q2.2) fun q4 =>
  lt_ (wr_ q4.1) fun y5 =>
  bd_ (fX3_expect x0 18 q4.2) fun q6 =>
  if (q6.2 x0 6) = 0 then (
    if y5 < 1 then (
      fX3_takeUpTo_48 x0 q2.1 y5 q6.2)
    else (
      if y5 ≤ x1 then (
        some (y5, q6.2))
      else (
        fX3_takeUpTo_48 x0 q2.1 y5 q6.2)))
  else (
    some (y5, q6.2))
section
variable {E : En_} {p : Program} {l : Launch} {e : Env} {s : State} {m : MethodId} {args : Array Value} {below : List Frame} {meth : Method} {c : Code} {sz : Int}
theorem tX3_takeUpTo_48 (C : MC_ E p s m c cX3_takeUpTo 4 RX3) (hr : meth.sig.returnType = (some FieldType.int)) (hlk : meth.locks = false) (hC : Cl_ E.2.2.2.2.2 sz) (hG : Pg_ E.2.2.2.2.2) {out : Int × V_} (x0 x2 x3 : Int) (v : V_) (T0 : (E.2.2.2.2.2 x0 ∧ ty_ x0 = 3 ∧ ln_ x0 = 0)) (h : fX3_takeUpTo_48 x0 x2 x3 v = some out) : G_ E p l e (rm_ 3 63) s m args below meth c 4 sz (Q_ E below args s sz sz 0 out.1 out.2) 48 [(0, (2, x0)), (2, (0, x2)), (3, (0, x3))] [] v sz := by
  rw [fX3_takeUpTo_48] at h
  refine g_aload_n C (f := 0) dX3_takeUpTo_48 0 rfl ?_
  refine g_iconst C (n := 5) dX3_takeUpTo_49 (by decide) ?_
  refine g_iload_n C (f := 2) dX3_takeUpTo_50 1 rfl ?_
  obtain ⟨q9, eq9, h⟩ := bd_e h
  refine g_cV C [(0, 5), (0, x2)] (cX3_failLater_ok l hC hG T0 eq9) okX3 T0.2.1 (rg_ hC T0.1) km_RX3_107 cv_X3_failLater rfl (by decide) rfl rfl (Nat.le_of_ble_eq_true rfl) dX3_takeUpTo_51 ?_
  refine g_iload_n C (f := 3) dX3_takeUpTo_54 2 rfl ?_
  cases h
  exact g_iret C dX3_takeUpTo_55 hr hlk
end
theorem cX3_takeUpTo_ok (l : Launch) {E : En_} {sz : Int} (hC : Cl_ E.2.2.2.2.2 sz) (hG : Pg_ E.2.2.2.2.2) {x0 x1 : Int} {v : V_} {out : Int × V_} (T0 : (E.2.2.2.2.2 x0 ∧ ty_ x0 = 3 ∧ ln_ x0 = 0)) (h : fX3_takeUpTo x0 x1 v = some out) : Met l yX3_takeUpTo [.code yX3_takeUpTo cX3_takeUpTo 4 (some FieldType.int)] (rm_ 3 63) (Pc_ E sz v [(2, x0), (0, x1)]) (Qc_ E sz 0 out.1 out.2) 0 0 (fun q => E.1 < q) := by
  refine met_G0 RX3 (by decide +kernel) rfl (Nat.le_of_ble_eq_true rfl) ?_
  intro p e s m args below meth c C hr hlk
  rw [fX3_takeUpTo] at h
  refine g_aload_n C (f := 0) dX3_takeUpTo_0 0 rfl ?_
  have F1 := fX3_0 hC T0.1 T0.2.1
  refine g_getR C (k := 0) (o := 1) okX3 (by decide) kf_RX3_12 dX3_takeUpTo_1 hC T0.1 T0.2.1 rfl rfl ?_
  refine g_aload_n C (f := 0) dX3_takeUpTo_4 0 rfl ?_
  refine g_getf C (k := 5) (kd := 0) okX3 (by decide) kf_RX3_44 dX3_takeUpTo_5 (rg_ hC T0.1) T0.2.1 rfl ?_
  obtain ⟨q2, eq2, h⟩ := bd_e h
  refine g_cV C [(0, v x0 5)] (cX9_placeAt_ok l hC F1 eq2) okX9 F1.2.1 (rg_ hC F1.1) km_RX3_81 cv_X9_placeAt rfl (by decide) rfl rfl (Nat.le_of_ble_eq_true rfl) dX3_takeUpTo_8 ?_
  refine g_istore_n C (f := 2) (ls' := [(2, (0, q2.1)), (0, (2, x0)), (1, (0, x1))]) dX3_takeUpTo_11 (by decide) rfl ?_
  refine g_aload_n C (f := 0) dX3_takeUpTo_12 1 rfl ?_
  have F3 := fX3_0 hC T0.1 T0.2.1
  refine g_getR C (k := 0) (o := 1) okX3 (by decide) kf_RX3_12 dX3_takeUpTo_13 hC T0.1 T0.2.1 rfl rfl ?_
  refine g_aload_n C (f := 0) dX3_takeUpTo_16 1 rfl ?_
  refine g_getf C (k := 5) (kd := 0) okX3 (by decide) kf_RX3_44 dX3_takeUpTo_17 (rg_ hC T0.1) T0.2.1 rfl ?_
  obtain ⟨q4, eq4, h⟩ := bd_e h
  refine g_cV C [(0, q2.2 x0 5)] (cX9_valueAt_ok l hC F3 eq4) okX9 F3.2.1 (rg_ hC F3.1) km_RX3_103 cv_X9_valueAt rfl (by decide) rfl rfl (Nat.le_of_ble_eq_true rfl) dX3_takeUpTo_20 ?_
  refine g_l2i C dX3_takeUpTo_23 ?_
  obtain ⟨y5, ey5, h⟩ := lt_e h
  refine g_set C ey5 ?_
  refine g_istore_n C (f := 3) (ls' := [(3, (0, y5)), (2, (0, q2.1)), (0, (2, x0)), (1, (0, x1))]) dX3_takeUpTo_24 (by decide) rfl ?_
  refine g_aload_n C (f := 0) dX3_takeUpTo_25 2 rfl ?_
  refine g_bipush C (n := 18) dX3_takeUpTo_26 (by decide) ?_
  obtain ⟨q6, eq6, h⟩ := bd_e h
  refine g_cV C [(0, 18)] (cX3_expect_ok l hC hG T0 eq6) okX3 T0.2.1 (rg_ hC T0.1) km_RX3_94 cv_X3_expect rfl (by decide) rfl rfl (Nat.le_of_ble_eq_true rfl) dX3_takeUpTo_28 ?_
  refine g_aload_n C (f := 0) dX3_takeUpTo_31 2 rfl ?_
  refine g_getf C (k := 6) (kd := 0) okX3 (by decide) kf_RX3_48 dX3_takeUpTo_32 (rg_ hC T0.1) T0.2.1 rfl ?_
  refine g_if_ne C 54 dX3_takeUpTo_35 rfl (fun c7 => ?_) (fun c7 => ?_)
  · replace h := if_f h c7
    refine g_iload_n C (f := 3) dX3_takeUpTo_54 0 rfl ?_
    cases h
    exact g_iret C dX3_takeUpTo_55 hr hlk
  · replace h := if_t h c7
    refine g_iload_n C (f := 3) dX3_takeUpTo_38 0 rfl ?_
    refine g_iconst C (n := 1) dX3_takeUpTo_39 (by decide) ?_
    refine g_icmp_lt C 48 dX3_takeUpTo_40 rfl (fun c8 => ?_) (fun c8 => ?_)
    · replace h := if_t h c8
      refine g_sub [2, 1, 0] rfl rfl ?_
      exact tX3_takeUpTo_48 C hr hlk hC hG _ _ _ _ T0 h
    · replace h := if_f h c8
      refine g_iload_n C (f := 3) dX3_takeUpTo_43 0 rfl ?_
      refine g_iload_n C (f := 1) dX3_takeUpTo_44 3 rfl ?_
      refine g_icmp_le C 54 dX3_takeUpTo_45 rfl (fun c10 => ?_) (fun c10 => ?_)
      · replace h := if_t h c10
        refine g_iload_n C (f := 3) dX3_takeUpTo_54 0 rfl ?_
        cases h
        exact g_iret C dX3_takeUpTo_55 hr hlk
      · replace h := if_f h c10
        refine g_sub [2, 1, 0] rfl rfl ?_
        exact tX3_takeUpTo_48 C hr hlk hC hG _ _ _ _ T0 h
theorem dX3_parseUnits_0 : decode cX3_parseUnits 0 = .ok (.aload_n 0, 1) := by decide +kernel
theorem dX3_parseUnits_1 : decode cX3_parseUnits 1 = .ok (.invokevirtual 85, 3) := by decide +kernel
theorem dX3_parseUnits_4 : decode cX3_parseUnits 4 = .ok (.aload_n 0, 1) := by decide +kernel
theorem dX3_parseUnits_5 : decode cX3_parseUnits 5 = .ok (.getfield 12, 3) := by decide +kernel
theorem dX3_parseUnits_8 : decode cX3_parseUnits 8 = .ok (.aload_n 0, 1) := by decide +kernel
theorem dX3_parseUnits_9 : decode cX3_parseUnits 9 = .ok (.getfield 44, 3) := by decide +kernel
theorem dX3_parseUnits_12 : decode cX3_parseUnits 12 = .ok (.invokevirtual 88, 3) := by decide +kernel
theorem dX3_parseUnits_15 : decode cX3_parseUnits 15 = .ok (.iconst 2, 1) := by decide +kernel
theorem dX3_parseUnits_16 : decode cX3_parseUnits 16 = .ok (.isub, 1) := by decide +kernel
theorem dX3_parseUnits_17 : decode cX3_parseUnits 17 = .ok (.istore_n 1, 1) := by decide +kernel
theorem dX3_parseUnits_18 : decode cX3_parseUnits 18 = .ok (.iload_n 1, 1) := by decide +kernel
theorem dX3_parseUnits_19 : decode cX3_parseUnits 19 = .ok (.ifCond .lt 8, 3) := by decide +kernel
theorem dX3_parseUnits_22 : decode cX3_parseUnits 22 = .ok (.iload_n 1, 1) := by decide +kernel
theorem dX3_parseUnits_23 : decode cX3_parseUnits 23 = .ok (.iconst 4, 1) := by decide +kernel
theorem dX3_parseUnits_24 : decode cX3_parseUnits 24 = .ok (.if_icmp .lt 9, 3) := by decide +kernel
theorem dX3_parseUnits_27 : decode cX3_parseUnits 27 = .ok (.aload_n 0, 1) := by decide +kernel
theorem dX3_parseUnits_28 : decode cX3_parseUnits 28 = .ok (.iconst 1, 1) := by decide +kernel
theorem dX3_parseUnits_29 : decode cX3_parseUnits 29 = .ok (.invokevirtual 71, 3) := by decide +kernel
theorem dX3_parseUnits_32 : decode cX3_parseUnits 32 = .ok (.return_, 1) := by decide +kernel
theorem dX3_parseUnits_33 : decode cX3_parseUnits 33 = .ok (.aload_n 0, 1) := by decide +kernel
theorem dX3_parseUnits_34 : decode cX3_parseUnits 34 = .ok (.invokevirtual 85, 3) := by decide +kernel
theorem dX3_parseUnits_37 : decode cX3_parseUnits 37 = .ok (.aload_n 0, 1) := by decide +kernel
theorem dX3_parseUnits_38 : decode cX3_parseUnits 38 = .ok (.iconst 4, 1) := by decide +kernel
theorem dX3_parseUnits_39 : decode cX3_parseUnits 39 = .ok (.invokevirtual 91, 3) := by decide +kernel
theorem dX3_parseUnits_42 : decode cX3_parseUnits 42 = .ok (.istore_n 2, 1) := by decide +kernel
theorem dX3_parseUnits_43 : decode cX3_parseUnits 43 = .ok (.aload_n 0, 1) := by decide +kernel
theorem dX3_parseUnits_44 : decode cX3_parseUnits 44 = .ok (.bipush 6, 2) := by decide +kernel
theorem dX3_parseUnits_46 : decode cX3_parseUnits 46 = .ok (.invokevirtual 91, 3) := by decide +kernel
theorem dX3_parseUnits_49 : decode cX3_parseUnits 49 = .ok (.istore_n 3, 1) := by decide +kernel
theorem dX3_parseUnits_50 : decode cX3_parseUnits 50 = .ok (.aload_n 0, 1) := by decide +kernel
theorem dX3_parseUnits_51 : decode cX3_parseUnits 51 = .ok (.bipush 59, 2) := by decide +kernel
theorem dX3_parseUnits_53 : decode cX3_parseUnits 53 = .ok (.invokevirtual 94, 3) := by decide +kernel
theorem dX3_parseUnits_56 : decode cX3_parseUnits 56 = .ok (.aload_n 0, 1) := by decide +kernel
theorem dX3_parseUnits_57 : decode cX3_parseUnits 57 = .ok (.getfield 48, 3) := by decide +kernel
theorem dX3_parseUnits_60 : decode cX3_parseUnits 60 = .ok (.ifCond .ne 23, 3) := by decide +kernel
theorem dX3_parseUnits_63 : decode cX3_parseUnits 63 = .ok (.aload_n 0, 1) := by decide +kernel
theorem dX3_parseUnits_64 : decode cX3_parseUnits 64 = .ok (.getfield 29, 3) := by decide +kernel
theorem dX3_parseUnits_67 : decode cX3_parseUnits 67 = .ok (.getfield 97, 3) := by decide +kernel
theorem dX3_parseUnits_70 : decode cX3_parseUnits 70 = .ok (.iload_n 1, 1) := by decide +kernel
theorem dX3_parseUnits_71 : decode cX3_parseUnits 71 = .ok (.iload_n 2, 1) := by decide +kernel
theorem dX3_parseUnits_72 : decode cX3_parseUnits 72 = .ok (.iastore, 1) := by decide +kernel
theorem dX3_parseUnits_73 : decode cX3_parseUnits 73 = .ok (.aload_n 0, 1) := by decide +kernel
theorem dX3_parseUnits_74 : decode cX3_parseUnits 74 = .ok (.getfield 29, 3) := by decide +kernel
theorem dX3_parseUnits_77 : decode cX3_parseUnits 77 = .ok (.getfield 100, 3) := by decide +kernel
theorem dX3_parseUnits_80 : decode cX3_parseUnits 80 = .ok (.iload_n 1, 1) := by decide +kernel
theorem dX3_parseUnits_81 : decode cX3_parseUnits 81 = .ok (.iload_n 3, 1) := by decide +kernel
theorem dX3_parseUnits_82 : decode cX3_parseUnits 82 = .ok (.iastore, 1) := by decide +kernel
theorem dX3_parseUnits_83 : decode cX3_parseUnits 83 = .ok (.return_, 1) := by decide +kernel
def fX3_parseUnits (x0 : Int) (v : V_) : Option (Int × V_) :=
  bd_ (fX3_take x0 v) fun q1 =>
  bd_ (fX9_sortAt (x0 + 1) (q1.2 x0 5) q1.2) fun q3 =>
  lt_ (wr_ (q3.1 - 2)) fun y4 =>
  if y4 < 0 then (
    bd_ (fX3_fail x0 1 q3.2) fun q6 =>
    some (0, q6.2))
  else (
    if y4 < 4 then (
      bd_ (fX3_take x0 q3.2) fun q8 =>
      bd_ (fX3_takeUpTo x0 4 q8.2) fun q9 =>
      bd_ (fX3_takeUpTo x0 6 q9.2) fun q10 =>
      bd_ (fX3_expect x0 59 q10.2) fun q11 =>
      if (q11.2 x0 6) = 0 then (
        ck_ (q11.2 x0 4 = PA_ ∨ q11.2 x0 4 = PB_) (
        ck_ (0 ≤ y4 ∧ y4 < 4) (
        lt_ (up_ q11.2 ((q11.2 x0 4) + 6) y4 q9.1) fun v17 =>
        ck_ (v17 x0 4 = PA_ ∨ v17 x0 4 = PB_) (
        ck_ (0 ≤ y4 ∧ y4 < 4) (
        lt_ (up_ v17 ((v17 x0 4) + 7) y4 q10.1) fun v22 =>
        some (0, v22))))))
      else (
        some (0, q11.2)))
    else (
      bd_ (fX3_fail x0 1 q3.2) fun q23 =>
      some (0, q23.2)))
theorem cX3_parseUnits_ok (l : Launch) {E : En_} {sz : Int} (hC : Cl_ E.2.2.2.2.2 sz) (hG : Pg_ E.2.2.2.2.2) {x0 : Int} {v : V_} {out : Int × V_} (T0 : (E.2.2.2.2.2 x0 ∧ ty_ x0 = 3 ∧ ln_ x0 = 0)) (h : fX3_parseUnits x0 v = some out) : Met l yX3_parseUnits [.code yX3_parseUnits cX3_parseUnits 4 (none : Option FieldType)] (rm_ 4 86) (Pc_ E sz v [(2, x0)]) (Qc_ E sz 9 out.1 out.2) 0 0 (fun q => E.1 < q) := by
  refine met_G0 RX3 (by decide +kernel) rfl (Nat.le_of_ble_eq_true rfl) ?_
  intro p e s m args below meth c C hr hlk
  rw [fX3_parseUnits] at h
  refine g_aload_n C (f := 0) dX3_parseUnits_0 0 rfl ?_
  obtain ⟨q1, eq1, h⟩ := bd_e h
  refine g_cV C [] (cX3_take_ok l hC hG T0 eq1) okX3 T0.2.1 (rg_ hC T0.1) km_RX3_85 cv_X3_take rfl (by decide) rfl rfl (Nat.le_of_ble_eq_true rfl) dX3_parseUnits_1 ?_
  refine g_aload_n C (f := 0) dX3_parseUnits_4 0 rfl ?_
  have F2 := fX3_0 hC T0.1 T0.2.1
  refine g_getR C (k := 0) (o := 1) okX3 (by decide) kf_RX3_12 dX3_parseUnits_5 hC T0.1 T0.2.1 rfl rfl ?_
  refine g_aload_n C (f := 0) dX3_parseUnits_8 0 rfl ?_
  refine g_getf C (k := 5) (kd := 0) okX3 (by decide) kf_RX3_44 dX3_parseUnits_9 (rg_ hC T0.1) T0.2.1 rfl ?_
  obtain ⟨q3, eq3, h⟩ := bd_e h
  refine g_cV C [(0, q1.2 x0 5)] (cX9_sortAt_ok l hC F2 eq3) okX9 F2.2.1 (rg_ hC F2.1) km_RX3_88 cv_X9_sortAt rfl (by decide) rfl rfl (Nat.le_of_ble_eq_true rfl) dX3_parseUnits_12 ?_
  refine g_iconst C (n := 2) dX3_parseUnits_15 (by decide) ?_
  refine g_isub C dX3_parseUnits_16 ?_
  obtain ⟨y4, ey4, h⟩ := lt_e h
  refine g_set C ey4 ?_
  refine g_istore_n C (f := 1) (ls' := [(1, (0, y4)), (0, (2, x0))]) dX3_parseUnits_17 (by decide) rfl ?_
  refine g_iload_n C (f := 1) dX3_parseUnits_18 0 rfl ?_
  refine g_if_lt C 27 dX3_parseUnits_19 rfl (fun c5 => ?_) (fun c5 => ?_)
  · replace h := if_t h c5
    refine g_aload_n C (f := 0) dX3_parseUnits_27 1 rfl ?_
    refine g_iconst C (n := 1) dX3_parseUnits_28 (by decide) ?_
    obtain ⟨q6, eq6, h⟩ := bd_e h
    refine g_cV C [(0, 1)] (cX3_fail_ok l hC hG T0 eq6) okX3 T0.2.1 (rg_ hC T0.1) km_RX3_71 cv_X3_fail rfl (by decide) rfl rfl (Nat.le_of_ble_eq_true rfl) dX3_parseUnits_29 ?_
    cases h
    exact g_vret C dX3_parseUnits_32 hr hlk
  · replace h := if_f h c5
    refine g_iload_n C (f := 1) dX3_parseUnits_22 0 rfl ?_
    refine g_iconst C (n := 4) dX3_parseUnits_23 (by decide) ?_
    refine g_icmp_lt C 33 dX3_parseUnits_24 rfl (fun c7 => ?_) (fun c7 => ?_)
    · replace h := if_t h c7
      refine g_aload_n C (f := 0) dX3_parseUnits_33 1 rfl ?_
      obtain ⟨q8, eq8, h⟩ := bd_e h
      refine g_cV C [] (cX3_take_ok l hC hG T0 eq8) okX3 T0.2.1 (rg_ hC T0.1) km_RX3_85 cv_X3_take rfl (by decide) rfl rfl (Nat.le_of_ble_eq_true rfl) dX3_parseUnits_34 ?_
      refine g_aload_n C (f := 0) dX3_parseUnits_37 1 rfl ?_
      refine g_iconst C (n := 4) dX3_parseUnits_38 (by decide) ?_
      obtain ⟨q9, eq9, h⟩ := bd_e h
      refine g_cV C [(0, 4)] (cX3_takeUpTo_ok l hC hG T0 eq9) okX3 T0.2.1 (rg_ hC T0.1) km_RX3_91 cv_X3_takeUpTo rfl (by decide) rfl rfl (Nat.le_of_ble_eq_true rfl) dX3_parseUnits_39 ?_
      refine g_istore_n C (f := 2) (ls' := [(2, (0, q9.1)), (1, (0, y4)), (0, (2, x0))]) dX3_parseUnits_42 (by decide) rfl ?_
      refine g_aload_n C (f := 0) dX3_parseUnits_43 2 rfl ?_
      refine g_bipush C (n := 6) dX3_parseUnits_44 (by decide) ?_
      obtain ⟨q10, eq10, h⟩ := bd_e h
      refine g_cV C [(0, 6)] (cX3_takeUpTo_ok l hC hG T0 eq10) okX3 T0.2.1 (rg_ hC T0.1) km_RX3_91 cv_X3_takeUpTo rfl (by decide) rfl rfl (Nat.le_of_ble_eq_true rfl) dX3_parseUnits_46 ?_
      refine g_istore_n C (f := 3) (ls' := [(3, (0, q10.1)), (2, (0, q9.1)), (1, (0, y4)), (0, (2, x0))]) dX3_parseUnits_49 (by decide) rfl ?_
      refine g_aload_n C (f := 0) dX3_parseUnits_50 3 rfl ?_
      refine g_bipush C (n := 59) dX3_parseUnits_51 (by decide) ?_
      obtain ⟨q11, eq11, h⟩ := bd_e h
      refine g_cV C [(0, 59)] (cX3_expect_ok l hC hG T0 eq11) okX3 T0.2.1 (rg_ hC T0.1) km_RX3_94 cv_X3_expect rfl (by decide) rfl rfl (Nat.le_of_ble_eq_true rfl) dX3_parseUnits_53 ?_
      refine g_aload_n C (f := 0) dX3_parseUnits_56 3 rfl ?_
      refine g_getf C (k := 6) (kd := 0) okX3 (by decide) kf_RX3_48 dX3_parseUnits_57 (rg_ hC T0.1) T0.2.1 rfl ?_
      refine g_if_ne C 83 dX3_parseUnits_60 rfl (fun c12 => ?_) (fun c12 => ?_)
      · replace h := if_f h c12
        cases h
        exact g_vret C dX3_parseUnits_83 hr hlk
      · replace h := if_t h c12
        refine g_aload_n C (f := 0) dX3_parseUnits_63 3 rfl ?_
        obtain ⟨c13, h⟩ := ck_e h
        refine g_getf C (k := 4) (kd := 2) okX3 (by decide) kf_RX3_29 dX3_parseUnits_64 (rg_ hC T0.1) T0.2.1 rfl ?_
        have F14 := pgF_ hG c13
        have F15 := fX5_6 hC F14.1 F14.2.1
        refine g_getR C (k := 6) (o := 6) okX5 (by decide) kf_RX3_97 dX3_parseUnits_67 hC F14.1 F14.2.1 rfl rfl ?_
        refine g_iload_n C (f := 1) dX3_parseUnits_70 2 rfl ?_
        refine g_iload_n C (f := 2) dX3_parseUnits_71 1 rfl ?_
        obtain ⟨c16, h⟩ := ck_e h
        obtain ⟨v17, ev17, h⟩ := lt_e h
        refine g_iast C 4 dX3_parseUnits_72 (rg_ hC F15.1) F15.2.1 F15.2.2 c16 v17 ev17 ?_
        refine g_aload_n C (f := 0) dX3_parseUnits_73 3 rfl ?_
        obtain ⟨c18, h⟩ := ck_e h
        refine g_getf C (k := 4) (kd := 2) okX3 (by decide) kf_RX3_29 dX3_parseUnits_74 (rg_ hC T0.1) T0.2.1 rfl ?_
        have F19 := pgF_ hG c18
        have F20 := fX5_7 hC F19.1 F19.2.1
        refine g_getR C (k := 7) (o := 7) okX5 (by decide) kf_RX3_100 dX3_parseUnits_77 hC F19.1 F19.2.1 rfl rfl ?_
        refine g_iload_n C (f := 1) dX3_parseUnits_80 2 rfl ?_
        refine g_iload_n C (f := 3) dX3_parseUnits_81 0 rfl ?_
        obtain ⟨c21, h⟩ := ck_e h
        obtain ⟨v22, ev22, h⟩ := lt_e h
        refine g_iast C 4 dX3_parseUnits_82 (rg_ hC F20.1) F20.2.1 F20.2.2 c21 v22 ev22 ?_
        cases h
        exact g_vret C dX3_parseUnits_83 hr hlk
    · replace h := if_f h c7
      refine g_aload_n C (f := 0) dX3_parseUnits_27 1 rfl ?_
      refine g_iconst C (n := 1) dX3_parseUnits_28 (by decide) ?_
      obtain ⟨q23, eq23, h⟩ := bd_e h
      refine g_cV C [(0, 1)] (cX3_fail_ok l hC hG T0 eq23) okX3 T0.2.1 (rg_ hC T0.1) km_RX3_71 cv_X3_fail rfl (by decide) rfl rfl (Nat.le_of_ble_eq_true rfl) dX3_parseUnits_29 ?_
      cases h
      exact g_vret C dX3_parseUnits_32 hr hlk
theorem dX3_resolveWays_0 : decode cX3_resolveWays 0 = .ok (.iconst 0, 1) := by decide +kernel
theorem dX3_resolveWays_1 : decode cX3_resolveWays 1 = .ok (.istore_n 1, 1) := by decide +kernel
theorem dX3_resolveWays_2 : decode cX3_resolveWays 2 = .ok (.iload_n 1, 1) := by decide +kernel
theorem dX3_resolveWays_3 : decode cX3_resolveWays 3 = .ok (.aload_n 0, 1) := by decide +kernel
theorem dX3_resolveWays_4 : decode cX3_resolveWays 4 = .ok (.getfield 29, 3) := by decide +kernel
theorem dX3_resolveWays_7 : decode cX3_resolveWays 7 = .ok (.getfield 111, 3) := by decide +kernel
theorem dX3_resolveWays_10 : decode cX3_resolveWays 10 = .ok (.iconst 2, 1) := by decide +kernel
theorem dX3_resolveWays_11 : decode cX3_resolveWays 11 = .ok (.imul, 1) := by decide +kernel
theorem dX3_resolveWays_12 : decode cX3_resolveWays 12 = .ok (.if_icmp .ge 70, 3) := by decide +kernel
theorem dX3_resolveWays_15 : decode cX3_resolveWays 15 = .ok (.aload_n 0, 1) := by decide +kernel
theorem dX3_resolveWays_16 : decode cX3_resolveWays 16 = .ok (.getfield 22, 3) := by decide +kernel
theorem dX3_resolveWays_19 : decode cX3_resolveWays 19 = .ok (.iload_n 1, 1) := by decide +kernel
theorem dX3_resolveWays_20 : decode cX3_resolveWays 20 = .ok (.laload, 1) := by decide +kernel
theorem dX3_resolveWays_21 : decode cX3_resolveWays 21 = .ok (.lconst 0, 1) := by decide +kernel
theorem dX3_resolveWays_22 : decode cX3_resolveWays 22 = .ok (.lcmp, 1) := by decide +kernel
theorem dX3_resolveWays_23 : decode cX3_resolveWays 23 = .ok (.ifCond .eq 53, 3) := by decide +kernel
theorem dX3_resolveWays_26 : decode cX3_resolveWays 26 = .ok (.aload_n 0, 1) := by decide +kernel
theorem dX3_resolveWays_27 : decode cX3_resolveWays 27 = .ok (.getfield 29, 3) := by decide +kernel
theorem dX3_resolveWays_30 : decode cX3_resolveWays 30 = .ok (.getfield 164, 3) := by decide +kernel
theorem dX3_resolveWays_33 : decode cX3_resolveWays 33 = .ok (.iload_n 1, 1) := by decide +kernel
theorem dX3_resolveWays_34 : decode cX3_resolveWays 34 = .ok (.aload_n 0, 1) := by decide +kernel
theorem dX3_resolveWays_35 : decode cX3_resolveWays 35 = .ok (.aload_n 0, 1) := by decide +kernel
theorem dX3_resolveWays_36 : decode cX3_resolveWays 36 = .ok (.getfield 22, 3) := by decide +kernel
theorem dX3_resolveWays_39 : decode cX3_resolveWays 39 = .ok (.iload_n 1, 1) := by decide +kernel
theorem dX3_resolveWays_40 : decode cX3_resolveWays 40 = .ok (.laload, 1) := by decide +kernel
theorem dX3_resolveWays_41 : decode cX3_resolveWays 41 = .ok (.aload_n 0, 1) := by decide +kernel
theorem dX3_resolveWays_42 : decode cX3_resolveWays 42 = .ok (.getfield 29, 3) := by decide +kernel
theorem dX3_resolveWays_45 : decode cX3_resolveWays 45 = .ok (.getfield 111, 3) := by decide +kernel
theorem dX3_resolveWays_48 : decode cX3_resolveWays 48 = .ok (.invokevirtual 131, 3) := by decide +kernel
theorem dX3_resolveWays_51 : decode cX3_resolveWays 51 = .ok (.iastore, 1) := by decide +kernel
theorem dX3_resolveWays_52 : decode cX3_resolveWays 52 = .ok (.aload_n 0, 1) := by decide +kernel
theorem dX3_resolveWays_53 : decode cX3_resolveWays 53 = .ok (.getfield 29, 3) := by decide +kernel
theorem dX3_resolveWays_56 : decode cX3_resolveWays 56 = .ok (.getfield 164, 3) := by decide +kernel
theorem dX3_resolveWays_59 : decode cX3_resolveWays 59 = .ok (.iload_n 1, 1) := by decide +kernel
theorem dX3_resolveWays_60 : decode cX3_resolveWays 60 = .ok (.iaload, 1) := by decide +kernel
theorem dX3_resolveWays_61 : decode cX3_resolveWays 61 = .ok (.iconst (-1), 1) := by decide +kernel
theorem dX3_resolveWays_62 : decode cX3_resolveWays 62 = .ok (.if_icmp .ne 14, 3) := by decide +kernel
theorem dX3_resolveWays_65 : decode cX3_resolveWays 65 = .ok (.aload_n 0, 1) := by decide +kernel
theorem dX3_resolveWays_66 : decode cX3_resolveWays 66 = .ok (.iconst 4, 1) := by decide +kernel
theorem dX3_resolveWays_67 : decode cX3_resolveWays 67 = .ok (.aload_n 0, 1) := by decide +kernel
theorem dX3_resolveWays_68 : decode cX3_resolveWays 68 = .ok (.getfield 25, 3) := by decide +kernel
theorem dX3_resolveWays_71 : decode cX3_resolveWays 71 = .ok (.iload_n 1, 1) := by decide +kernel
theorem dX3_resolveWays_72 : decode cX3_resolveWays 72 = .ok (.iaload, 1) := by decide +kernel
theorem dX3_resolveWays_73 : decode cX3_resolveWays 73 = .ok (.invokevirtual 107, 3) := by decide +kernel
theorem dX3_resolveWays_76 : decode cX3_resolveWays 76 = .ok (.iinc 1 1, 3) := by decide +kernel
theorem dX3_resolveWays_79 : decode cX3_resolveWays 79 = .ok (.goto (-77), 3) := by decide +kernel
theorem dX3_resolveWays_82 : decode cX3_resolveWays 82 = .ok (.return_, 1) := by decide +kernel
def fX3_resolveWays_2 : Nat → Int → Int → V_ → Option (Int × V_)
  | 0, _, _, _ => none
  | n + 1, x0, x1, v =>
    ck_ (v x0 4 = PA_ ∨ v x0 4 = PB_) (
    if (wr_ ((v (v x0 4) 0) * 2)) ≤ x1 then (
      some (0, v))
    else (
      ck_ (0 ≤ x1 ∧ x1 < 16) (
      if (lc_ (v (x0 + 7) x1) 0) = 0 then (
        lt_ (wr_ (x1 + 1)) fun y7 =>
        (fX3_resolveWays_2 n) x0 y7 v)
      else (
        ck_ (v x0 4 = PA_ ∨ v x0 4 = PB_) (
        ck_ (0 ≤ x1 ∧ x1 < 16) (
        ck_ (v x0 4 = PA_ ∨ v x0 4 = PB_) (
        bd_ (fX3_blockNamed x0 (v (x0 + 7) x1) (v (v x0 4) 0) v) fun q15 =>
        ck_ (0 ≤ x1 ∧ x1 < 16) (
        lt_ (up_ q15.2 ((v x0 4) + 4) x1 q15.1) fun v17 =>
        ck_ (v17 x0 4 = PA_ ∨ v17 x0 4 = PB_) (
        ck_ (0 ≤ x1 ∧ x1 < 16) (
        if (v17 ((v17 x0 4) + 4) x1) = (-1) then (
          ck_ (0 ≤ x1 ∧ x1 < 16) (
          bd_ (fX3_failLater x0 4 (v17 (x0 + 8) x1) v17) fun q26 =>
          lt_ (wr_ (x1 + 1)) fun y27 =>
          (fX3_resolveWays_2 n) x0 y27 q26.2))
        else (
          lt_ (wr_ (x1 + 1)) fun y23 =>
          (fX3_resolveWays_2 n) x0 y23 v17)))))))))))
def fX3_resolveWays (x0 : Int) (v : V_) : Option (Int × V_) :=
  fX3_resolveWays_2 fu_ x0 0 v
section
variable {E : En_} {p : Program} {l : Launch} {e : Env} {s : State} {m : MethodId} {args : Array Value} {below : List Frame} {meth : Method} {c : Code} {sz : Int}
theorem tX3_resolveWays_2 (C : MC_ E p s m c cX3_resolveWays 2 RX3) (hr : meth.sig.returnType = (none : Option FieldType)) (hlk : meth.locks = false) (hC : Cl_ E.2.2.2.2.2 sz) (hG : Pg_ E.2.2.2.2.2) {out : Int × V_} : ∀ (n : Nat) (x0 x1 : Int) (v : V_), (E.2.2.2.2.2 x0 ∧ ty_ x0 = 3 ∧ ln_ x0 = 0) → fX3_resolveWays_2 n x0 x1 v = some out → G_ E p l e (rm_ 1 24) s m args below meth c 2 sz (Q_ E below args s sz sz 9 out.1 out.2) 2 [(0, (2, x0)), (1, (0, x1))] [] v sz := by
  intro n
  induction n with
  | zero =>
    intro x0 x1 v T0 h
    cases h
  | succ n H_2 =>
    intro x0 x1 v T0 h
    rw [fX3_resolveWays_2] at h
    refine g_iload_n C (f := 1) dX3_resolveWays_2 1 rfl ?_
    refine g_aload_n C (f := 0) dX3_resolveWays_3 0 rfl ?_
    obtain ⟨c1, h⟩ := ck_e h
    refine g_getf C (k := 4) (kd := 2) okX3 (by decide) kf_RX3_29 dX3_resolveWays_4 (rg_ hC T0.1) T0.2.1 rfl ?_
    have F2 := pgF_ hG c1
    refine g_getf C (k := 0) (kd := 0) okX5 (by decide) kf_RX3_111 dX3_resolveWays_7 (rg_ hC F2.1) F2.2.1 rfl ?_
    refine g_iconst C (n := 2) dX3_resolveWays_10 (by decide) ?_
    refine g_imul C dX3_resolveWays_11 ?_
    refine g_icmp_ge C 82 dX3_resolveWays_12 rfl (fun c3 => ?_) (fun c3 => ?_)
    · replace h := if_t h c3
      cases h
      exact g_vret C dX3_resolveWays_82 hr hlk
    · replace h := if_f h c3
      refine g_aload_n C (f := 0) dX3_resolveWays_15 0 rfl ?_
      have F4 := fX3_2 hC T0.1 T0.2.1
      refine g_getR C (k := 2) (o := 7) okX3 (by decide) kf_RX3_22 dX3_resolveWays_16 hC T0.1 T0.2.1 rfl rfl ?_
      refine g_iload_n C (f := 1) dX3_resolveWays_19 1 rfl ?_
      obtain ⟨c5, h⟩ := ck_e h
      refine g_lald C 16 dX3_resolveWays_20 (rg_ hC F4.1) F4.2.1 F4.2.2 c5 ?_
      refine g_lconst C (z := 0) dX3_resolveWays_21 (by decide) ?_
      refine g_lcmp C dX3_resolveWays_22 ?_
      refine g_if_eq C 76 dX3_resolveWays_23 rfl (fun c6 => ?_) (fun c6 => ?_)
      · replace h := if_t h c6
        obtain ⟨y7, ey7, h⟩ := lt_e h
        refine g_iincx C (ls' := [(1, (0, y7)), (0, (2, x0))]) ey7 dX3_resolveWays_76 1 rfl (by decide) (by decide) rfl ?_
        refine g_goto C 2 dX3_resolveWays_79 rfl ?_
        refine g_sub [1, 0] rfl rfl ?_
        exact H_2 _ _ _ T0 h
      · replace h := if_f h c6
        refine g_aload_n C (f := 0) dX3_resolveWays_26 0 rfl ?_
        obtain ⟨c8, h⟩ := ck_e h
        refine g_getf C (k := 4) (kd := 2) okX3 (by decide) kf_RX3_29 dX3_resolveWays_27 (rg_ hC T0.1) T0.2.1 rfl ?_
        have F9 := pgF_ hG c8
        have F10 := fX5_4 hC F9.1 F9.2.1
        refine g_getR C (k := 4) (o := 4) okX5 (by decide) kf_RX3_164 dX3_resolveWays_30 hC F9.1 F9.2.1 rfl rfl ?_
        refine g_iload_n C (f := 1) dX3_resolveWays_33 1 rfl ?_
        refine g_aload_n C (f := 0) dX3_resolveWays_34 0 rfl ?_
        refine g_aload_n C (f := 0) dX3_resolveWays_35 0 rfl ?_
        have F11 := fX3_2 hC T0.1 T0.2.1
        refine g_getR C (k := 2) (o := 7) okX3 (by decide) kf_RX3_22 dX3_resolveWays_36 hC T0.1 T0.2.1 rfl rfl ?_
        refine g_iload_n C (f := 1) dX3_resolveWays_39 1 rfl ?_
        obtain ⟨c12, h⟩ := ck_e h
        refine g_lald C 16 dX3_resolveWays_40 (rg_ hC F11.1) F11.2.1 F11.2.2 c12 ?_
        refine g_aload_n C (f := 0) dX3_resolveWays_41 0 rfl ?_
        obtain ⟨c13, h⟩ := ck_e h
        refine g_getf C (k := 4) (kd := 2) okX3 (by decide) kf_RX3_29 dX3_resolveWays_42 (rg_ hC T0.1) T0.2.1 rfl ?_
        have F14 := pgF_ hG c13
        refine g_getf C (k := 0) (kd := 0) okX5 (by decide) kf_RX3_111 dX3_resolveWays_45 (rg_ hC F14.1) F14.2.1 rfl ?_
        obtain ⟨q15, eq15, h⟩ := bd_e h
        refine g_cV C [(1, v (x0 + 7) x1), (0, v (v x0 4) 0)] (cX3_blockNamed_ok l hC hG T0 eq15) okX3 T0.2.1 (rg_ hC T0.1) km_RX3_131 cv_X3_blockNamed rfl (by decide) rfl rfl (Nat.le_of_ble_eq_true rfl) dX3_resolveWays_48 ?_
        obtain ⟨c16, h⟩ := ck_e h
        obtain ⟨v17, ev17, h⟩ := lt_e h
        refine g_iast C 16 dX3_resolveWays_51 (rg_ hC F10.1) F10.2.1 F10.2.2 c16 v17 ev17 ?_
        refine g_aload_n C (f := 0) dX3_resolveWays_52 0 rfl ?_
        obtain ⟨c18, h⟩ := ck_e h
        refine g_getf C (k := 4) (kd := 2) okX3 (by decide) kf_RX3_29 dX3_resolveWays_53 (rg_ hC T0.1) T0.2.1 rfl ?_
        have F19 := pgF_ hG c18
        have F20 := fX5_4 hC F19.1 F19.2.1
        refine g_getR C (k := 4) (o := 4) okX5 (by decide) kf_RX3_164 dX3_resolveWays_56 hC F19.1 F19.2.1 rfl rfl ?_
        refine g_iload_n C (f := 1) dX3_resolveWays_59 1 rfl ?_
        obtain ⟨c21, h⟩ := ck_e h
        refine g_iald C 16 dX3_resolveWays_60 (rg_ hC F20.1) F20.2.1 F20.2.2 c21 ?_
        refine g_iconst C (n := (-1)) dX3_resolveWays_61 (by decide) ?_
        refine g_icmp_ne C 76 dX3_resolveWays_62 rfl (fun c22 => ?_) (fun c22 => ?_)
        · replace h := if_f h c22
          obtain ⟨y23, ey23, h⟩ := lt_e h
          refine g_iincx C (ls' := [(1, (0, y23)), (0, (2, x0))]) ey23 dX3_resolveWays_76 1 rfl (by decide) (by decide) rfl ?_
          refine g_goto C 2 dX3_resolveWays_79 rfl ?_
          refine g_sub [1, 0] rfl rfl ?_
          exact H_2 _ _ _ T0 h
        · replace h := if_t h c22
          refine g_aload_n C (f := 0) dX3_resolveWays_65 0 rfl ?_
          refine g_iconst C (n := 4) dX3_resolveWays_66 (by decide) ?_
          refine g_aload_n C (f := 0) dX3_resolveWays_67 0 rfl ?_
          have F24 := fX3_3 hC T0.1 T0.2.1
          refine g_getR C (k := 3) (o := 8) okX3 (by decide) kf_RX3_25 dX3_resolveWays_68 hC T0.1 T0.2.1 rfl rfl ?_
          refine g_iload_n C (f := 1) dX3_resolveWays_71 1 rfl ?_
          obtain ⟨c25, h⟩ := ck_e h
          refine g_iald C 16 dX3_resolveWays_72 (rg_ hC F24.1) F24.2.1 F24.2.2 c25 ?_
          obtain ⟨q26, eq26, h⟩ := bd_e h
          refine g_cV C [(0, 4), (0, v17 (x0 + 8) x1)] (cX3_failLater_ok l hC hG T0 eq26) okX3 T0.2.1 (rg_ hC T0.1) km_RX3_107 cv_X3_failLater rfl (by decide) rfl rfl (Nat.le_of_ble_eq_true rfl) dX3_resolveWays_73 ?_
          obtain ⟨y27, ey27, h⟩ := lt_e h
          refine g_iincx C (ls' := [(1, (0, y27)), (0, (2, x0))]) ey27 dX3_resolveWays_76 1 rfl (by decide) (by decide) rfl ?_
          refine g_goto C 2 dX3_resolveWays_79 rfl ?_
          refine g_sub [1, 0] rfl rfl ?_
          exact H_2 _ _ _ T0 h
end
theorem cX3_resolveWays_ok (l : Launch) {E : En_} {sz : Int} (hC : Cl_ E.2.2.2.2.2 sz) (hG : Pg_ E.2.2.2.2.2) {x0 : Int} {v : V_} {out : Int × V_} (T0 : (E.2.2.2.2.2 x0 ∧ ty_ x0 = 3 ∧ ln_ x0 = 0)) (h : fX3_resolveWays x0 v = some out) : Met l yX3_resolveWays [.code yX3_resolveWays cX3_resolveWays 2 (none : Option FieldType)] (rm_ 1 24) (Pc_ E sz v [(2, x0)]) (Qc_ E sz 9 out.1 out.2) 0 0 (fun q => E.1 < q) := by
  refine met_G0 RX3 (by decide +kernel) rfl (Nat.le_of_ble_eq_true rfl) ?_
  intro p e s m args below meth c C hr hlk
  rw [fX3_resolveWays] at h
  refine g_iconst C (n := 0) dX3_resolveWays_0 (by decide) ?_
  refine g_istore_n C (f := 1) (ls' := [(1, (0, 0)), (0, (2, x0))]) dX3_resolveWays_1 (by decide) rfl ?_
  refine g_sub [1, 0] rfl rfl ?_
  exact tX3_resolveWays_2 C hr hlk hC hG _ _ _ _ T0 h
theorem dX5_startAnew_0 : decode cX5_startAnew 0 = .ok (.aload_n 0, 1) := by decide +kernel
theorem dX5_startAnew_1 : decode cX5_startAnew 1 = .ok (.iconst 0, 1) := by decide +kernel
theorem dX5_startAnew_2 : decode cX5_startAnew 2 = .ok (.putfield 40, 3) := by decide +kernel
theorem dX5_startAnew_5 : decode cX5_startAnew 5 = .ok (.aload_n 0, 1) := by decide +kernel
theorem dX5_startAnew_6 : decode cX5_startAnew 6 = .ok (.getfield 30, 3) := by decide +kernel
theorem dX5_startAnew_9 : decode cX5_startAnew 9 = .ok (.iconst 1, 1) := by decide +kernel
theorem dX5_startAnew_10 : decode cX5_startAnew 10 = .ok (.invokestatic 44, 3) := by decide +kernel
theorem dX5_startAnew_13 : decode cX5_startAnew 13 = .ok (.aload_n 0, 1) := by decide +kernel
theorem dX5_startAnew_14 : decode cX5_startAnew 14 = .ok (.getfield 33, 3) := by decide +kernel
theorem dX5_startAnew_17 : decode cX5_startAnew 17 = .ok (.iconst 0, 1) := by decide +kernel
theorem dX5_startAnew_18 : decode cX5_startAnew 18 = .ok (.iconst 1, 1) := by decide +kernel
theorem dX5_startAnew_19 : decode cX5_startAnew 19 = .ok (.iastore, 1) := by decide +kernel
theorem dX5_startAnew_20 : decode cX5_startAnew 20 = .ok (.aload_n 0, 1) := by decide +kernel
theorem dX5_startAnew_21 : decode cX5_startAnew 21 = .ok (.getfield 33, 3) := by decide +kernel
theorem dX5_startAnew_24 : decode cX5_startAnew 24 = .ok (.iconst 1, 1) := by decide +kernel
theorem dX5_startAnew_25 : decode cX5_startAnew 25 = .ok (.iconst 3, 1) := by decide +kernel
theorem dX5_startAnew_26 : decode cX5_startAnew 26 = .ok (.iastore, 1) := by decide +kernel
theorem dX5_startAnew_27 : decode cX5_startAnew 27 = .ok (.aload_n 0, 1) := by decide +kernel
theorem dX5_startAnew_28 : decode cX5_startAnew 28 = .ok (.getfield 33, 3) := by decide +kernel
theorem dX5_startAnew_31 : decode cX5_startAnew 31 = .ok (.iconst 2, 1) := by decide +kernel
theorem dX5_startAnew_32 : decode cX5_startAnew 32 = .ok (.iconst 2, 1) := by decide +kernel
theorem dX5_startAnew_33 : decode cX5_startAnew 33 = .ok (.iastore, 1) := by decide +kernel
theorem dX5_startAnew_34 : decode cX5_startAnew 34 = .ok (.aload_n 0, 1) := by decide +kernel
theorem dX5_startAnew_35 : decode cX5_startAnew 35 = .ok (.getfield 33, 3) := by decide +kernel
theorem dX5_startAnew_38 : decode cX5_startAnew 38 = .ok (.iconst 3, 1) := by decide +kernel
theorem dX5_startAnew_39 : decode cX5_startAnew 39 = .ok (.iconst 1, 1) := by decide +kernel
theorem dX5_startAnew_40 : decode cX5_startAnew 40 = .ok (.iastore, 1) := by decide +kernel
theorem dX5_startAnew_41 : decode cX5_startAnew 41 = .ok (.return_, 1) := by decide +kernel
def fX5_startAnew (x0 : Int) (v : V_) : Option (Int × V_) :=
  lt_ (up_ v x0 0 0) fun v1 =>
  lt_ (fl_ v1 (x0 + 6) 4 1) fun v3 =>
  lt_ (up_ v3 (x0 + 7) 0 1) fun v5 =>
  lt_ (up_ v5 (x0 + 7) 1 3) fun v7 =>
  lt_ (up_ v7 (x0 + 7) 2 2) fun v9 =>
  lt_ (up_ v9 (x0 + 7) 3 1) fun v11 =>
  some (0, v11)
theorem cX5_startAnew_ok (l : Launch) {E : En_} {sz : Int} (hC : Cl_ E.2.2.2.2.2 sz) {x0 : Int} {v : V_} {out : Int × V_} (T0 : (E.2.2.2.2.2 x0 ∧ ty_ x0 = 5 ∧ ln_ x0 = 0)) (h : fX5_startAnew x0 v = some out) : Met l yX5_startAnew [.code yX5_startAnew cX5_startAnew 1 (none : Option FieldType)] (rm_ 1 23) (Pc_ E sz v [(2, x0)]) (Qc_ E sz 9 out.1 out.2) 0 0 (fun q => E.1 < q) := by
  refine met_G0 RX5 (by decide +kernel) rfl (Nat.le_of_ble_eq_true rfl) ?_
  intro p e s m args below meth c C hr hlk
  rw [fX5_startAnew] at h
  refine g_aload_n C (f := 0) dX5_startAnew_0 0 rfl ?_
  refine g_iconst C (n := 0) dX5_startAnew_1 (by decide) ?_
  obtain ⟨v1, ev1, h⟩ := lt_e h
  refine g_putf C (k := 0) (kd := 0) okX5 (by decide) kf_RX5_40 dX5_startAnew_2 (rg_ hC T0.1) T0.2.1 rfl rfl nvI (Or.inl rfl) v1 ev1 ?_
  refine g_aload_n C (f := 0) dX5_startAnew_5 0 rfl ?_
  have F2 := fX5_6 hC T0.1 T0.2.1
  refine g_getR C (k := 6) (o := 6) okX5 (by decide) kf_RX5_30 dX5_startAnew_6 hC T0.1 T0.2.1 rfl rfl ?_
  refine g_iconst C (n := 1) dX5_startAnew_9 (by decide) ?_
  obtain ⟨v3, ev3, h⟩ := lt_e h
  refine g_cS C [(2, x0 + 6), (0, 1)] (c_fillI l (rg_ hC F2.1) F2.2.1 F2.2.2 (by decide)) km_RX5_44 cs_FillI rfl (by decide) rfl rfl (Nat.le_of_ble_eq_true rfl) dX5_startAnew_10 ?_
  refine g_setv C ev3 ?_
  refine g_aload_n C (f := 0) dX5_startAnew_13 0 rfl ?_
  have F4 := fX5_7 hC T0.1 T0.2.1
  refine g_getR C (k := 7) (o := 7) okX5 (by decide) kf_RX5_33 dX5_startAnew_14 hC T0.1 T0.2.1 rfl rfl ?_
  refine g_iconst C (n := 0) dX5_startAnew_17 (by decide) ?_
  refine g_iconst C (n := 1) dX5_startAnew_18 (by decide) ?_
  obtain ⟨v5, ev5, h⟩ := lt_e h
  refine g_iast C 4 dX5_startAnew_19 (rg_ hC F4.1) F4.2.1 F4.2.2 (by decide) v5 ev5 ?_
  refine g_aload_n C (f := 0) dX5_startAnew_20 0 rfl ?_
  have F6 := fX5_7 hC T0.1 T0.2.1
  refine g_getR C (k := 7) (o := 7) okX5 (by decide) kf_RX5_33 dX5_startAnew_21 hC T0.1 T0.2.1 rfl rfl ?_
  refine g_iconst C (n := 1) dX5_startAnew_24 (by decide) ?_
  refine g_iconst C (n := 3) dX5_startAnew_25 (by decide) ?_
  obtain ⟨v7, ev7, h⟩ := lt_e h
  refine g_iast C 4 dX5_startAnew_26 (rg_ hC F6.1) F6.2.1 F6.2.2 (by decide) v7 ev7 ?_
  refine g_aload_n C (f := 0) dX5_startAnew_27 0 rfl ?_
  have F8 := fX5_7 hC T0.1 T0.2.1
  refine g_getR C (k := 7) (o := 7) okX5 (by decide) kf_RX5_33 dX5_startAnew_28 hC T0.1 T0.2.1 rfl rfl ?_
  refine g_iconst C (n := 2) dX5_startAnew_31 (by decide) ?_
  refine g_iconst C (n := 2) dX5_startAnew_32 (by decide) ?_
  obtain ⟨v9, ev9, h⟩ := lt_e h
  refine g_iast C 4 dX5_startAnew_33 (rg_ hC F8.1) F8.2.1 F8.2.2 (by decide) v9 ev9 ?_
  refine g_aload_n C (f := 0) dX5_startAnew_34 0 rfl ?_
  have F10 := fX5_7 hC T0.1 T0.2.1
  refine g_getR C (k := 7) (o := 7) okX5 (by decide) kf_RX5_33 dX5_startAnew_35 hC T0.1 T0.2.1 rfl rfl ?_
  refine g_iconst C (n := 3) dX5_startAnew_38 (by decide) ?_
  refine g_iconst C (n := 1) dX5_startAnew_39 (by decide) ?_
  obtain ⟨v11, ev11, h⟩ := lt_e h
  refine g_iast C 4 dX5_startAnew_40 (rg_ hC F10.1) F10.2.1 F10.2.2 (by decide) v11 ev11 ?_
  cases h
  exact g_vret C dX5_startAnew_41 hr hlk
theorem dX9_add_0 : decode cX9_add 0 = .ok (.aload_n 0, 1) := by decide +kernel
theorem dX9_add_1 : decode cX9_add 1 = .ok (.getfield 43, 3) := by decide +kernel
theorem dX9_add_4 : decode cX9_add 4 = .ok (.aload_n 0, 1) := by decide +kernel
theorem dX9_add_5 : decode cX9_add 5 = .ok (.getfield 15, 3) := by decide +kernel
theorem dX9_add_8 : decode cX9_add 8 = .ok (.arraylength, 1) := by decide +kernel
theorem dX9_add_9 : decode cX9_add 9 = .ok (.if_icmp .ge 43, 3) := by decide +kernel
theorem dX9_add_12 : decode cX9_add 12 = .ok (.aload_n 0, 1) := by decide +kernel
theorem dX9_add_13 : decode cX9_add 13 = .ok (.getfield 15, 3) := by decide +kernel
theorem dX9_add_16 : decode cX9_add 16 = .ok (.aload_n 0, 1) := by decide +kernel
theorem dX9_add_17 : decode cX9_add 17 = .ok (.getfield 43, 3) := by decide +kernel
theorem dX9_add_20 : decode cX9_add 20 = .ok (.iload_n 1, 1) := by decide +kernel
theorem dX9_add_21 : decode cX9_add 21 = .ok (.iastore, 1) := by decide +kernel
theorem dX9_add_22 : decode cX9_add 22 = .ok (.aload_n 0, 1) := by decide +kernel
theorem dX9_add_23 : decode cX9_add 23 = .ok (.getfield 19, 3) := by decide +kernel
theorem dX9_add_26 : decode cX9_add 26 = .ok (.aload_n 0, 1) := by decide +kernel
theorem dX9_add_27 : decode cX9_add 27 = .ok (.getfield 43, 3) := by decide +kernel
theorem dX9_add_30 : decode cX9_add 30 = .ok (.iload_n 2, 1) := by decide +kernel
theorem dX9_add_31 : decode cX9_add 31 = .ok (.iastore, 1) := by decide +kernel
theorem dX9_add_32 : decode cX9_add 32 = .ok (.aload_n 0, 1) := by decide +kernel
theorem dX9_add_33 : decode cX9_add 33 = .ok (.getfield 22, 3) := by decide +kernel
theorem dX9_add_36 : decode cX9_add 36 = .ok (.aload_n 0, 1) := by decide +kernel
theorem dX9_add_37 : decode cX9_add 37 = .ok (.getfield 43, 3) := by decide +kernel
theorem dX9_add_40 : decode cX9_add 40 = .ok (.lload_n 3, 1) := by decide +kernel
theorem dX9_add_41 : decode cX9_add 41 = .ok (.lastore, 1) := by decide +kernel
theorem dX9_add_42 : decode cX9_add 42 = .ok (.aload_n 0, 1) := by decide +kernel
theorem dX9_add_43 : decode cX9_add 43 = .ok (.dup, 1) := by decide +kernel
theorem dX9_add_44 : decode cX9_add 44 = .ok (.getfield 43, 3) := by decide +kernel
theorem dX9_add_47 : decode cX9_add 47 = .ok (.iconst 1, 1) := by decide +kernel
theorem dX9_add_48 : decode cX9_add 48 = .ok (.iadd, 1) := by decide +kernel
theorem dX9_add_49 : decode cX9_add 49 = .ok (.putfield 43, 3) := by decide +kernel
theorem dX9_add_52 : decode cX9_add 52 = .ok (.return_, 1) := by decide +kernel
def fX9_add (x0 x1 x2 x3 : Int) (v : V_) : Option (Int × V_) :=
  if 402 ≤ (v x0 4) then (
    some (0, v))
  else (
    ck_ (0 ≤ v x0 4 ∧ v x0 4 < 402) (
    lt_ (up_ v (x0 + 2) (v x0 4) x1) fun v5 =>
    ck_ (0 ≤ v5 x0 4 ∧ v5 x0 4 < 402) (
    lt_ (up_ v5 (x0 + 3) (v5 x0 4) x2) fun v8 =>
    ck_ (0 ≤ v8 x0 4 ∧ v8 x0 4 < 402) (
    lt_ (up_ v8 (x0 + 4) (v8 x0 4) x3) fun v11 =>
    lt_ (up_ v11 x0 4 (wr_ ((v11 x0 4) + 1))) fun v12 =>
    some (0, v12)))))
theorem cX9_add_ok (l : Launch) {E : En_} {sz : Int} (hC : Cl_ E.2.2.2.2.2 sz) {x0 x1 x2 x3 : Int} {v : V_} {out : Int × V_} (T0 : (E.2.2.2.2.2 x0 ∧ ty_ x0 = 9 ∧ ln_ x0 = 0)) (h : fX9_add x0 x1 x2 x3 v = some out) : Met l yX9_add [.code yX9_add cX9_add 5 (none : Option FieldType)] (rm_ 0 0) (Pc_ E sz v [(2, x0), (0, x1), (0, x2), (1, x3)]) (Qc_ E sz 9 out.1 out.2) 0 0 (fun q => E.1 < q) := by
  refine met_G0 RX9 (by decide +kernel) rfl (Nat.le_of_ble_eq_true rfl) ?_
  intro p e s m args below meth c C hr hlk
  rw [fX9_add] at h
  refine g_aload_n C (f := 0) dX9_add_0 0 rfl ?_
  refine g_getf C (k := 4) (kd := 0) okX9 (by decide) kf_RX9_43 dX9_add_1 (rg_ hC T0.1) T0.2.1 rfl ?_
  refine g_aload_n C (f := 0) dX9_add_4 0 rfl ?_
  have F1 := fX9_1 hC T0.1 T0.2.1
  refine g_getR C (k := 1) (o := 2) okX9 (by decide) kf_RX9_15 dX9_add_5 hC T0.1 T0.2.1 rfl rfl ?_
  refine g_alen C 20 402 dX9_add_8 (rg_ hC F1.1) F1.2.1 F1.2.2 (by decide) (by decide) ?_
  refine g_icmp_ge C 52 dX9_add_9 rfl (fun c2 => ?_) (fun c2 => ?_)
  · replace h := if_t h c2
    cases h
    exact g_vret C dX9_add_52 hr hlk
  · replace h := if_f h c2
    refine g_aload_n C (f := 0) dX9_add_12 0 rfl ?_
    have F3 := fX9_1 hC T0.1 T0.2.1
    refine g_getR C (k := 1) (o := 2) okX9 (by decide) kf_RX9_15 dX9_add_13 hC T0.1 T0.2.1 rfl rfl ?_
    refine g_aload_n C (f := 0) dX9_add_16 0 rfl ?_
    refine g_getf C (k := 4) (kd := 0) okX9 (by decide) kf_RX9_43 dX9_add_17 (rg_ hC T0.1) T0.2.1 rfl ?_
    refine g_iload_n C (f := 1) dX9_add_20 1 rfl ?_
    obtain ⟨c4, h⟩ := ck_e h
    obtain ⟨v5, ev5, h⟩ := lt_e h
    refine g_iast C 402 dX9_add_21 (rg_ hC F3.1) F3.2.1 F3.2.2 c4 v5 ev5 ?_
    refine g_aload_n C (f := 0) dX9_add_22 0 rfl ?_
    have F6 := fX9_2 hC T0.1 T0.2.1
    refine g_getR C (k := 2) (o := 3) okX9 (by decide) kf_RX9_19 dX9_add_23 hC T0.1 T0.2.1 rfl rfl ?_
    refine g_aload_n C (f := 0) dX9_add_26 0 rfl ?_
    refine g_getf C (k := 4) (kd := 0) okX9 (by decide) kf_RX9_43 dX9_add_27 (rg_ hC T0.1) T0.2.1 rfl ?_
    refine g_iload_n C (f := 2) dX9_add_30 2 rfl ?_
    obtain ⟨c7, h⟩ := ck_e h
    obtain ⟨v8, ev8, h⟩ := lt_e h
    refine g_iast C 402 dX9_add_31 (rg_ hC F6.1) F6.2.1 F6.2.2 c7 v8 ev8 ?_
    refine g_aload_n C (f := 0) dX9_add_32 0 rfl ?_
    have F9 := fX9_3 hC T0.1 T0.2.1
    refine g_getR C (k := 3) (o := 4) okX9 (by decide) kf_RX9_22 dX9_add_33 hC T0.1 T0.2.1 rfl rfl ?_
    refine g_aload_n C (f := 0) dX9_add_36 0 rfl ?_
    refine g_getf C (k := 4) (kd := 0) okX9 (by decide) kf_RX9_43 dX9_add_37 (rg_ hC T0.1) T0.2.1 rfl ?_
    refine g_lload_n C (f := 3) dX9_add_40 3 rfl ?_
    obtain ⟨c10, h⟩ := ck_e h
    obtain ⟨v11, ev11, h⟩ := lt_e h
    refine g_last C 402 dX9_add_41 (rg_ hC F9.1) F9.2.1 F9.2.2 c10 v11 ev11 ?_
    refine g_aload_n C (f := 0) dX9_add_42 0 rfl ?_
    refine g_dup C (Nat.ne_of_beq_eq_false rfl) dX9_add_43 ?_
    refine g_getf C (k := 4) (kd := 0) okX9 (by decide) kf_RX9_43 dX9_add_44 (rg_ hC T0.1) T0.2.1 rfl ?_
    refine g_iconst C (n := 1) dX9_add_47 (by decide) ?_
    refine g_iadd C dX9_add_48 ?_
    obtain ⟨v12, ev12, h⟩ := lt_e h
    refine g_putf C (k := 4) (kd := 0) okX9 (by decide) kf_RX9_43 dX9_add_49 (rg_ hC T0.1) T0.2.1 rfl rfl nvI (Or.inl rfl) v12 ev12 ?_
    cases h
    exact g_vret C dX9_add_52 hr hlk
theorem dX9_isDigit_0 : decode cX9_isDigit 0 = .ok (.iload_n 0, 1) := by decide +kernel
theorem dX9_isDigit_1 : decode cX9_isDigit 1 = .ok (.bipush 48, 2) := by decide +kernel
theorem dX9_isDigit_3 : decode cX9_isDigit 3 = .ok (.if_icmp .lt 13, 3) := by decide +kernel
theorem dX9_isDigit_6 : decode cX9_isDigit 6 = .ok (.iload_n 0, 1) := by decide +kernel
theorem dX9_isDigit_7 : decode cX9_isDigit 7 = .ok (.bipush 57, 2) := by decide +kernel
theorem dX9_isDigit_9 : decode cX9_isDigit 9 = .ok (.if_icmp .gt 7, 3) := by decide +kernel
theorem dX9_isDigit_12 : decode cX9_isDigit 12 = .ok (.iconst 1, 1) := by decide +kernel
theorem dX9_isDigit_13 : decode cX9_isDigit 13 = .ok (.goto 4, 3) := by decide +kernel
theorem dX9_isDigit_16 : decode cX9_isDigit 16 = .ok (.iconst 0, 1) := by decide +kernel
theorem dX9_isDigit_17 : decode cX9_isDigit 17 = .ok (.ireturn, 1) := by decide +kernel
def fX9_isDigit (x0 : Int) (v : V_) : Option (Int × V_) :=
  if x0 < 48 then (
    some (0, v))
  else (
    if 57 < x0 then (
      some (0, v))
    else (
      some (1, v)))
theorem cX9_isDigit_ok (l : Launch) {E : En_} {sz : Int} (hC : Cl_ E.2.2.2.2.2 sz) {x0 : Int} {v : V_} {out : Int × V_} (h : fX9_isDigit x0 v = some out) : Met l yX9_isDigit [.code yX9_isDigit cX9_isDigit 1 (some FieldType.boolean)] (rm_ 0 0) (Pc_ E sz v [(0, x0)]) (Qc_ E sz 0 out.1 out.2) 0 0 (fun q => E.1 < q) := by
  refine met_G0 RX9 (by decide +kernel) rfl (Nat.le_of_ble_eq_true rfl) ?_
  intro p e s m args below meth c C hr hlk
  rw [fX9_isDigit] at h
  refine g_iload_n C (f := 0) dX9_isDigit_0 0 rfl ?_
  refine g_bipush C (n := 48) dX9_isDigit_1 (by decide) ?_
  refine g_icmp_lt C 16 dX9_isDigit_3 rfl (fun c1 => ?_) (fun c1 => ?_)
  · replace h := if_t h c1
    refine g_iconst C (n := 0) dX9_isDigit_16 (by decide) ?_
    cases h
    exact g_zret C dX9_isDigit_17 hr hlk (Or.inl rfl)
  · replace h := if_f h c1
    refine g_iload_n C (f := 0) dX9_isDigit_6 0 rfl ?_
    refine g_bipush C (n := 57) dX9_isDigit_7 (by decide) ?_
    refine g_icmp_gt C 16 dX9_isDigit_9 rfl (fun c2 => ?_) (fun c2 => ?_)
    · replace h := if_t h c2
      refine g_iconst C (n := 0) dX9_isDigit_16 (by decide) ?_
      cases h
      exact g_zret C dX9_isDigit_17 hr hlk (Or.inl rfl)
    · replace h := if_f h c2
      refine g_iconst C (n := 1) dX9_isDigit_12 (by decide) ?_
      refine g_goto C 17 dX9_isDigit_13 rfl ?_
      cases h
      exact g_zret C dX9_isDigit_17 hr hlk (Or.inr rfl)
theorem dX9_isLetter_0 : decode cX9_isLetter 0 = .ok (.iload_n 0, 1) := by decide +kernel
theorem dX9_isLetter_1 : decode cX9_isLetter 1 = .ok (.bipush 97, 2) := by decide +kernel
theorem dX9_isLetter_3 : decode cX9_isLetter 3 = .ok (.if_icmp .lt 13, 3) := by decide +kernel
theorem dX9_isLetter_6 : decode cX9_isLetter 6 = .ok (.iload_n 0, 1) := by decide +kernel
theorem dX9_isLetter_7 : decode cX9_isLetter 7 = .ok (.bipush 122, 2) := by decide +kernel
theorem dX9_isLetter_9 : decode cX9_isLetter 9 = .ok (.if_icmp .gt 7, 3) := by decide +kernel
theorem dX9_isLetter_12 : decode cX9_isLetter 12 = .ok (.iconst 1, 1) := by decide +kernel
theorem dX9_isLetter_13 : decode cX9_isLetter 13 = .ok (.goto 4, 3) := by decide +kernel
theorem dX9_isLetter_16 : decode cX9_isLetter 16 = .ok (.iconst 0, 1) := by decide +kernel
theorem dX9_isLetter_17 : decode cX9_isLetter 17 = .ok (.ireturn, 1) := by decide +kernel
def fX9_isLetter (x0 : Int) (v : V_) : Option (Int × V_) :=
  if x0 < 97 then (
    some (0, v))
  else (
    if 122 < x0 then (
      some (0, v))
    else (
      some (1, v)))
theorem cX9_isLetter_ok (l : Launch) {E : En_} {sz : Int} (hC : Cl_ E.2.2.2.2.2 sz) {x0 : Int} {v : V_} {out : Int × V_} (h : fX9_isLetter x0 v = some out) : Met l yX9_isLetter [.code yX9_isLetter cX9_isLetter 1 (some FieldType.boolean)] (rm_ 0 0) (Pc_ E sz v [(0, x0)]) (Qc_ E sz 0 out.1 out.2) 0 0 (fun q => E.1 < q) := by
  refine met_G0 RX9 (by decide +kernel) rfl (Nat.le_of_ble_eq_true rfl) ?_
  intro p e s m args below meth c C hr hlk
  rw [fX9_isLetter] at h
  refine g_iload_n C (f := 0) dX9_isLetter_0 0 rfl ?_
  refine g_bipush C (n := 97) dX9_isLetter_1 (by decide) ?_
  refine g_icmp_lt C 16 dX9_isLetter_3 rfl (fun c1 => ?_) (fun c1 => ?_)
  · replace h := if_t h c1
    refine g_iconst C (n := 0) dX9_isLetter_16 (by decide) ?_
    cases h
    exact g_zret C dX9_isLetter_17 hr hlk (Or.inl rfl)
  · replace h := if_f h c1
    refine g_iload_n C (f := 0) dX9_isLetter_6 0 rfl ?_
    refine g_bipush C (n := 122) dX9_isLetter_7 (by decide) ?_
    refine g_icmp_gt C 16 dX9_isLetter_9 rfl (fun c2 => ?_) (fun c2 => ?_)
    · replace h := if_t h c2
      refine g_iconst C (n := 0) dX9_isLetter_16 (by decide) ?_
      cases h
      exact g_zret C dX9_isLetter_17 hr hlk (Or.inl rfl)
    · replace h := if_f h c2
      refine g_iconst C (n := 1) dX9_isLetter_12 (by decide) ?_
      refine g_goto C 17 dX9_isLetter_13 rfl ?_
      cases h
      exact g_zret C dX9_isLetter_17 hr hlk (Or.inr rfl)
theorem dX9_isSign_0 : decode cX9_isSign 0 = .ok (.iload_n 0, 1) := by decide +kernel
theorem dX9_isSign_1 : decode cX9_isSign 1 = .ok (.bipush 59, 2) := by decide +kernel
theorem dX9_isSign_3 : decode cX9_isSign 3 = .ok (.if_icmp .eq 39, 3) := by decide +kernel
theorem dX9_isSign_6 : decode cX9_isSign 6 = .ok (.iload_n 0, 1) := by decide +kernel
theorem dX9_isSign_7 : decode cX9_isSign 7 = .ok (.bipush 61, 2) := by decide +kernel
theorem dX9_isSign_9 : decode cX9_isSign 9 = .ok (.if_icmp .eq 33, 3) := by decide +kernel
theorem dX9_isSign_12 : decode cX9_isSign 12 = .ok (.iload_n 0, 1) := by decide +kernel
theorem dX9_isSign_13 : decode cX9_isSign 13 = .ok (.bipush 60, 2) := by decide +kernel
theorem dX9_isSign_15 : decode cX9_isSign 15 = .ok (.if_icmp .eq 27, 3) := by decide +kernel
theorem dX9_isSign_18 : decode cX9_isSign 18 = .ok (.iload_n 0, 1) := by decide +kernel
theorem dX9_isSign_19 : decode cX9_isSign 19 = .ok (.bipush 43, 2) := by decide +kernel
theorem dX9_isSign_21 : decode cX9_isSign 21 = .ok (.if_icmp .eq 21, 3) := by decide +kernel
theorem dX9_isSign_24 : decode cX9_isSign 24 = .ok (.iload_n 0, 1) := by decide +kernel
theorem dX9_isSign_25 : decode cX9_isSign 25 = .ok (.bipush 45, 2) := by decide +kernel
theorem dX9_isSign_27 : decode cX9_isSign 27 = .ok (.if_icmp .eq 15, 3) := by decide +kernel
theorem dX9_isSign_30 : decode cX9_isSign 30 = .ok (.iload_n 0, 1) := by decide +kernel
theorem dX9_isSign_31 : decode cX9_isSign 31 = .ok (.bipush 42, 2) := by decide +kernel
theorem dX9_isSign_33 : decode cX9_isSign 33 = .ok (.if_icmp .eq 9, 3) := by decide +kernel
theorem dX9_isSign_36 : decode cX9_isSign 36 = .ok (.iload_n 0, 1) := by decide +kernel
theorem dX9_isSign_37 : decode cX9_isSign 37 = .ok (.bipush 47, 2) := by decide +kernel
theorem dX9_isSign_39 : decode cX9_isSign 39 = .ok (.if_icmp .ne 7, 3) := by decide +kernel
theorem dX9_isSign_42 : decode cX9_isSign 42 = .ok (.iconst 1, 1) := by decide +kernel
theorem dX9_isSign_43 : decode cX9_isSign 43 = .ok (.goto 4, 3) := by decide +kernel
theorem dX9_isSign_46 : decode cX9_isSign 46 = .ok (.iconst 0, 1) := by decide +kernel
theorem dX9_isSign_47 : decode cX9_isSign 47 = .ok (.ireturn, 1) := by decide +kernel
def fX9_isSign (x0 : Int) (v : V_) : Option (Int × V_) :=
  if x0 = 59 then (
    some (1, v))
  else (
    if x0 = 61 then (
      some (1, v))
    else (
      if x0 = 60 then (
        some (1, v))
      else (
        if x0 = 43 then (
          some (1, v))
        else (
          if x0 = 45 then (
            some (1, v))
          else (
            if x0 = 42 then (
              some (1, v))
            else (
              if x0 = 47 then (
                some (1, v))
              else (
                some (0, v))))))))
theorem cX9_isSign_ok (l : Launch) {E : En_} {sz : Int} (hC : Cl_ E.2.2.2.2.2 sz) {x0 : Int} {v : V_} {out : Int × V_} (h : fX9_isSign x0 v = some out) : Met l yX9_isSign [.code yX9_isSign cX9_isSign 1 (some FieldType.boolean)] (rm_ 0 0) (Pc_ E sz v [(0, x0)]) (Qc_ E sz 0 out.1 out.2) 0 0 (fun q => E.1 < q) := by
  refine met_G0 RX9 (by decide +kernel) rfl (Nat.le_of_ble_eq_true rfl) ?_
  intro p e s m args below meth c C hr hlk
  rw [fX9_isSign] at h
  refine g_iload_n C (f := 0) dX9_isSign_0 0 rfl ?_
  refine g_bipush C (n := 59) dX9_isSign_1 (by decide) ?_
  refine g_icmp_eq C 42 dX9_isSign_3 rfl (fun c1 => ?_) (fun c1 => ?_)
  · replace h := if_t h c1
    refine g_iconst C (n := 1) dX9_isSign_42 (by decide) ?_
    refine g_goto C 47 dX9_isSign_43 rfl ?_
    cases h
    exact g_zret C dX9_isSign_47 hr hlk (Or.inr rfl)
  · replace h := if_f h c1
    refine g_iload_n C (f := 0) dX9_isSign_6 0 rfl ?_
    refine g_bipush C (n := 61) dX9_isSign_7 (by decide) ?_
    refine g_icmp_eq C 42 dX9_isSign_9 rfl (fun c2 => ?_) (fun c2 => ?_)
    · replace h := if_t h c2
      refine g_iconst C (n := 1) dX9_isSign_42 (by decide) ?_
      refine g_goto C 47 dX9_isSign_43 rfl ?_
      cases h
      exact g_zret C dX9_isSign_47 hr hlk (Or.inr rfl)
    · replace h := if_f h c2
      refine g_iload_n C (f := 0) dX9_isSign_12 0 rfl ?_
      refine g_bipush C (n := 60) dX9_isSign_13 (by decide) ?_
      refine g_icmp_eq C 42 dX9_isSign_15 rfl (fun c3 => ?_) (fun c3 => ?_)
      · replace h := if_t h c3
        refine g_iconst C (n := 1) dX9_isSign_42 (by decide) ?_
        refine g_goto C 47 dX9_isSign_43 rfl ?_
        cases h
        exact g_zret C dX9_isSign_47 hr hlk (Or.inr rfl)
      · replace h := if_f h c3
        refine g_iload_n C (f := 0) dX9_isSign_18 0 rfl ?_
        refine g_bipush C (n := 43) dX9_isSign_19 (by decide) ?_
        refine g_icmp_eq C 42 dX9_isSign_21 rfl (fun c4 => ?_) (fun c4 => ?_)
        · replace h := if_t h c4
          refine g_iconst C (n := 1) dX9_isSign_42 (by decide) ?_
          refine g_goto C 47 dX9_isSign_43 rfl ?_
          cases h
          exact g_zret C dX9_isSign_47 hr hlk (Or.inr rfl)
        · replace h := if_f h c4
          refine g_iload_n C (f := 0) dX9_isSign_24 0 rfl ?_
          refine g_bipush C (n := 45) dX9_isSign_25 (by decide) ?_
          refine g_icmp_eq C 42 dX9_isSign_27 rfl (fun c5 => ?_) (fun c5 => ?_)
          · replace h := if_t h c5
            refine g_iconst C (n := 1) dX9_isSign_42 (by decide) ?_
            refine g_goto C 47 dX9_isSign_43 rfl ?_
            cases h
            exact g_zret C dX9_isSign_47 hr hlk (Or.inr rfl)
          · replace h := if_f h c5
            refine g_iload_n C (f := 0) dX9_isSign_30 0 rfl ?_
            refine g_bipush C (n := 42) dX9_isSign_31 (by decide) ?_
            refine g_icmp_eq C 42 dX9_isSign_33 rfl (fun c6 => ?_) (fun c6 => ?_)
            · replace h := if_t h c6
              refine g_iconst C (n := 1) dX9_isSign_42 (by decide) ?_
              refine g_goto C 47 dX9_isSign_43 rfl ?_
              cases h
              exact g_zret C dX9_isSign_47 hr hlk (Or.inr rfl)
            · replace h := if_f h c6
              refine g_iload_n C (f := 0) dX9_isSign_36 0 rfl ?_
              refine g_bipush C (n := 47) dX9_isSign_37 (by decide) ?_
              refine g_icmp_ne C 46 dX9_isSign_39 rfl (fun c7 => ?_) (fun c7 => ?_)
              · replace h := if_f h c7
                refine g_iconst C (n := 0) dX9_isSign_46 (by decide) ?_
                cases h
                exact g_zret C dX9_isSign_47 hr hlk (Or.inl rfl)
              · replace h := if_t h c7
                refine g_iconst C (n := 1) dX9_isSign_42 (by decide) ?_
                refine g_goto C 47 dX9_isSign_43 rfl ?_
                cases h
                exact g_zret C dX9_isSign_47 hr hlk (Or.inr rfl)
theorem dX9_number_0 : decode cX9_number 0 = .ok (.lconst 0, 1) := by decide +kernel
theorem dX9_number_1 : decode cX9_number 1 = .ok (.lstore_n 3, 1) := by decide +kernel
theorem dX9_number_2 : decode cX9_number 2 = .ok (.iload_n 1, 1) := by decide +kernel
theorem dX9_number_3 : decode cX9_number 3 = .ok (.istore 5, 2) := by decide +kernel
theorem dX9_number_5 : decode cX9_number 5 = .ok (.iload 5, 2) := by decide +kernel
theorem dX9_number_7 : decode cX9_number 7 = .ok (.iload_n 2, 1) := by decide +kernel
theorem dX9_number_8 : decode cX9_number 8 = .ok (.if_icmp .ge 24, 3) := by decide +kernel
theorem dX9_number_11 : decode cX9_number 11 = .ok (.lload_n 3, 1) := by decide +kernel
theorem dX9_number_12 : decode cX9_number 12 = .ok (.ldc2_w 86, 3) := by decide +kernel
theorem dX9_number_15 : decode cX9_number 15 = .ok (.lmul, 1) := by decide +kernel
theorem dX9_number_16 : decode cX9_number 16 = .ok (.aload_n 0, 1) := by decide +kernel
theorem dX9_number_17 : decode cX9_number 17 = .ok (.iload 5, 2) := by decide +kernel
theorem dX9_number_19 : decode cX9_number 19 = .ok (.baload, 1) := by decide +kernel
theorem dX9_number_20 : decode cX9_number 20 = .ok (.bipush 48, 2) := by decide +kernel
theorem dX9_number_22 : decode cX9_number 22 = .ok (.isub, 1) := by decide +kernel
theorem dX9_number_23 : decode cX9_number 23 = .ok (.i2l, 1) := by decide +kernel
theorem dX9_number_24 : decode cX9_number 24 = .ok (.ladd, 1) := by decide +kernel
theorem dX9_number_25 : decode cX9_number 25 = .ok (.lstore_n 3, 1) := by decide +kernel
theorem dX9_number_26 : decode cX9_number 26 = .ok (.iinc 5 1, 3) := by decide +kernel
theorem dX9_number_29 : decode cX9_number 29 = .ok (.goto (-24), 3) := by decide +kernel
theorem dX9_number_32 : decode cX9_number 32 = .ok (.lload_n 3, 1) := by decide +kernel
theorem dX9_number_33 : decode cX9_number 33 = .ok (.lreturn, 1) := by decide +kernel
def fX9_number_5 : Nat → Int → Int → Int → Int → V_ → Option (Int × V_)
  | 0, _, _, _, _, _ => none
  | n + 1, x0, x2, x3, x5, v =>
    if x2 ≤ x5 then (
      some (x3, v))
    else (
      ck_ (0 ≤ x5 ∧ x5 < 2000) (
      lt_ (wl_ ((wl_ (x3 * 10)) + (wr_ ((v x0 x5) - 48)))) fun y3 =>
      lt_ (wr_ (x5 + 1)) fun y4 =>
      (fX9_number_5 n) x0 x2 y3 y4 v))
def fX9_number (x0 x1 x2 : Int) (v : V_) : Option (Int × V_) :=
  fX9_number_5 fu_ x0 x2 0 x1 v
section
variable {E : En_} {p : Program} {l : Launch} {e : Env} {s : State} {m : MethodId} {args : Array Value} {below : List Frame} {meth : Method} {c : Code} {sz : Int}
theorem tX9_number_5 (C : MC_ E p s m c cX9_number 6 RX9) (hr : meth.sig.returnType = (some FieldType.long)) (hlk : meth.locks = false) (hC : Cl_ E.2.2.2.2.2 sz) {out : Int × V_} : ∀ (n : Nat) (x0 x2 x3 x5 : Int) (v : V_), (E.2.2.2.2.2 x0 ∧ ty_ x0 = 21 ∧ ln_ x0 = 2000) → fX9_number_5 n x0 x2 x3 x5 v = some out → G_ E p l e (rm_ 0 0) s m args below meth c 6 sz (Q_ E below args s sz sz 1 out.1 out.2) 5 [(0, (2, x0)), (2, (0, x2)), (3, (1, x3)), (5, (0, x5))] [] v sz := by
  intro n
  induction n with
  | zero =>
    intro x0 x2 x3 x5 v T0 h
    cases h
  | succ n H_5 =>
    intro x0 x2 x3 x5 v T0 h
    rw [fX9_number_5] at h
    refine g_iload C (i := 5) dX9_number_5 3 rfl ?_
    refine g_iload_n C (f := 2) dX9_number_7 1 rfl ?_
    refine g_icmp_ge C 32 dX9_number_8 rfl (fun c1 => ?_) (fun c1 => ?_)
    · replace h := if_t h c1
      refine g_lload_n C (f := 3) dX9_number_32 2 rfl ?_
      cases h
      exact g_lret C dX9_number_33 hr hlk
    · replace h := if_f h c1
      refine g_lload_n C (f := 3) dX9_number_11 2 rfl ?_
      refine g_ldc2 C (n := 10) kc_RX9_86 dX9_number_12 (by decide) ?_
      refine g_lmul C dX9_number_15 ?_
      refine g_aload_n C (f := 0) dX9_number_16 0 rfl ?_
      refine g_iload C (i := 5) dX9_number_17 3 rfl ?_
      obtain ⟨c2, h⟩ := ck_e h
      refine g_bald C 2000 dX9_number_19 (rg_ hC T0.1) T0.2.1 T0.2.2 c2 ?_
      refine g_bipush C (n := 48) dX9_number_20 (by decide) ?_
      refine g_isub C dX9_number_22 ?_
      refine g_i2l C dX9_number_23 ?_
      refine g_ladd C dX9_number_24 ?_
      obtain ⟨y3, ey3, h⟩ := lt_e h
      refine g_set C ey3 ?_
      refine g_lstore_n C (f := 3) (ls' := [(3, (1, y3)), (0, (2, x0)), (2, (0, x2)), (5, (0, x5))]) dX9_number_25 (by decide) rfl ?_
      obtain ⟨y4, ey4, h⟩ := lt_e h
      refine g_iincx C (ls' := [(5, (0, y4)), (3, (1, y3)), (0, (2, x0)), (2, (0, x2))]) ey4 dX9_number_26 3 rfl (by decide) (by decide) rfl ?_
      refine g_goto C 5 dX9_number_29 rfl ?_
      refine g_sub [2, 3, 1, 0] rfl rfl ?_
      exact H_5 _ _ _ _ _ T0 h
end
theorem cX9_number_ok (l : Launch) {E : En_} {sz : Int} (hC : Cl_ E.2.2.2.2.2 sz) {x0 x1 x2 : Int} {v : V_} {out : Int × V_} (T0 : (E.2.2.2.2.2 x0 ∧ ty_ x0 = 21 ∧ ln_ x0 = 2000)) (h : fX9_number x0 x1 x2 v = some out) : Met l yX9_number [.code yX9_number cX9_number 6 (some FieldType.long)] (rm_ 0 0) (Pc_ E sz v [(2, x0), (0, x1), (0, x2)]) (Qc_ E sz 1 out.1 out.2) 0 0 (fun q => E.1 < q) := by
  refine met_G0 RX9 (by decide +kernel) rfl (Nat.le_of_ble_eq_true rfl) ?_
  intro p e s m args below meth c C hr hlk
  rw [fX9_number] at h
  refine g_lconst C (z := 0) dX9_number_0 (by decide) ?_
  refine g_lstore_n C (f := 3) (ls' := [(3, (1, 0)), (0, (2, x0)), (1, (0, x1)), (2, (0, x2))]) dX9_number_1 (by decide) rfl ?_
  refine g_iload_n C (f := 1) dX9_number_2 2 rfl ?_
  refine g_istore C (i := 5) (ls' := [(5, (0, x1)), (3, (1, 0)), (0, (2, x0)), (1, (0, x1)), (2, (0, x2))]) dX9_number_3 (by decide) rfl ?_
  refine g_sub [2, 4, 1, 0] rfl rfl ?_
  exact tX9_number_5 C hr hlk hC _ _ _ _ _ _ T0 h
theorem dX9_withLetter_0 : decode cX9_withLetter 0 = .ok (.lload_n 0, 1) := by decide +kernel
theorem dX9_withLetter_1 : decode cX9_withLetter 1 = .ok (.ldc2_w 41, 3) := by decide +kernel
theorem dX9_withLetter_4 : decode cX9_withLetter 4 = .ok (.lmul, 1) := by decide +kernel
theorem dX9_withLetter_5 : decode cX9_withLetter 5 = .ok (.iload_n 2, 1) := by decide +kernel
theorem dX9_withLetter_6 : decode cX9_withLetter 6 = .ok (.bipush 97, 2) := by decide +kernel
theorem dX9_withLetter_8 : decode cX9_withLetter 8 = .ok (.isub, 1) := by decide +kernel
theorem dX9_withLetter_9 : decode cX9_withLetter 9 = .ok (.iconst 1, 1) := by decide +kernel
theorem dX9_withLetter_10 : decode cX9_withLetter 10 = .ok (.iadd, 1) := by decide +kernel
theorem dX9_withLetter_11 : decode cX9_withLetter 11 = .ok (.i2l, 1) := by decide +kernel
theorem dX9_withLetter_12 : decode cX9_withLetter 12 = .ok (.ladd, 1) := by decide +kernel
theorem dX9_withLetter_13 : decode cX9_withLetter 13 = .ok (.lreturn, 1) := by decide +kernel
def fX9_withLetter (x0 x2 : Int) (v : V_) : Option (Int × V_) :=
  some (wl_ ((wl_ (x0 * 32)) + (wr_ ((wr_ (x2 - 97)) + 1))), v)
theorem cX9_withLetter_ok (l : Launch) {E : En_} {sz : Int} (hC : Cl_ E.2.2.2.2.2 sz) {x0 x2 : Int} {v : V_} {out : Int × V_} (h : fX9_withLetter x0 x2 v = some out) : Met l yX9_withLetter [.code yX9_withLetter cX9_withLetter 3 (some FieldType.long)] (rm_ 0 0) (Pc_ E sz v [(1, x0), (0, x2)]) (Qc_ E sz 1 out.1 out.2) 0 0 (fun q => E.1 < q) := by
  refine met_G0 RX9 (by decide +kernel) rfl (Nat.le_of_ble_eq_true rfl) ?_
  intro p e s m args below meth c C hr hlk
  rw [fX9_withLetter] at h
  refine g_lload_n C (f := 0) dX9_withLetter_0 0 rfl ?_
  refine g_ldc2 C (n := 32) kc_RX9_41 dX9_withLetter_1 (by decide) ?_
  refine g_lmul C dX9_withLetter_4 ?_
  refine g_iload_n C (f := 2) dX9_withLetter_5 1 rfl ?_
  refine g_bipush C (n := 97) dX9_withLetter_6 (by decide) ?_
  refine g_isub C dX9_withLetter_8 ?_
  refine g_iconst C (n := 1) dX9_withLetter_9 (by decide) ?_
  refine g_iadd C dX9_withLetter_10 ?_
  refine g_i2l C dX9_withLetter_11 ?_
  refine g_ladd C dX9_withLetter_12 ?_
  cases h
  exact g_lret C dX9_withLetter_13 hr hlk
theorem dX9_packedLetters_0 : decode cX9_packedLetters 0 = .ok (.lconst 0, 1) := by decide +kernel
theorem dX9_packedLetters_1 : decode cX9_packedLetters 1 = .ok (.lstore_n 3, 1) := by decide +kernel
theorem dX9_packedLetters_2 : decode cX9_packedLetters 2 = .ok (.iload_n 1, 1) := by decide +kernel
theorem dX9_packedLetters_3 : decode cX9_packedLetters 3 = .ok (.istore 5, 2) := by decide +kernel
theorem dX9_packedLetters_5 : decode cX9_packedLetters 5 = .ok (.iload 5, 2) := by decide +kernel
theorem dX9_packedLetters_7 : decode cX9_packedLetters 7 = .ok (.iload_n 2, 1) := by decide +kernel
theorem dX9_packedLetters_8 : decode cX9_packedLetters 8 = .ok (.if_icmp .ge 18, 3) := by decide +kernel
theorem dX9_packedLetters_11 : decode cX9_packedLetters 11 = .ok (.lload_n 3, 1) := by decide +kernel
theorem dX9_packedLetters_12 : decode cX9_packedLetters 12 = .ok (.aload_n 0, 1) := by decide +kernel
theorem dX9_packedLetters_13 : decode cX9_packedLetters 13 = .ok (.iload 5, 2) := by decide +kernel
theorem dX9_packedLetters_15 : decode cX9_packedLetters 15 = .ok (.baload, 1) := by decide +kernel
theorem dX9_packedLetters_16 : decode cX9_packedLetters 16 = .ok (.invokestatic 37, 3) := by decide +kernel
theorem dX9_packedLetters_19 : decode cX9_packedLetters 19 = .ok (.lstore_n 3, 1) := by decide +kernel
theorem dX9_packedLetters_20 : decode cX9_packedLetters 20 = .ok (.iinc 5 1, 3) := by decide +kernel
theorem dX9_packedLetters_23 : decode cX9_packedLetters 23 = .ok (.goto (-18), 3) := by decide +kernel
theorem dX9_packedLetters_26 : decode cX9_packedLetters 26 = .ok (.lload_n 3, 1) := by decide +kernel
theorem dX9_packedLetters_27 : decode cX9_packedLetters 27 = .ok (.lreturn, 1) := by decide +kernel
def fX9_packedLetters_5 : Nat → Int → Int → Int → Int → V_ → Option (Int × V_)
  | 0, _, _, _, _, _ => none
  | n + 1, x0, x2, x3, x5, v =>
    if x2 ≤ x5 then (
      some (x3, v))
    else (
      ck_ (0 ≤ x5 ∧ x5 < 2000) (
      bd_ (fX9_withLetter x3 (v x0 x5) v) fun q3 =>
      lt_ (wr_ (x5 + 1)) fun y4 =>
      (fX9_packedLetters_5 n) x0 x2 q3.1 y4 q3.2))
def fX9_packedLetters (x0 x1 x2 : Int) (v : V_) : Option (Int × V_) :=
  fX9_packedLetters_5 fu_ x0 x2 0 x1 v
section
variable {E : En_} {p : Program} {l : Launch} {e : Env} {s : State} {m : MethodId} {args : Array Value} {below : List Frame} {meth : Method} {c : Code} {sz : Int}
theorem tX9_packedLetters_5 (C : MC_ E p s m c cX9_packedLetters 6 RX9) (hr : meth.sig.returnType = (some FieldType.long)) (hlk : meth.locks = false) (hC : Cl_ E.2.2.2.2.2 sz) {out : Int × V_} : ∀ (n : Nat) (x0 x2 x3 x5 : Int) (v : V_), (E.2.2.2.2.2 x0 ∧ ty_ x0 = 21 ∧ ln_ x0 = 2000) → fX9_packedLetters_5 n x0 x2 x3 x5 v = some out → G_ E p l e (rm_ 1 22) s m args below meth c 6 sz (Q_ E below args s sz sz 1 out.1 out.2) 5 [(0, (2, x0)), (2, (0, x2)), (3, (1, x3)), (5, (0, x5))] [] v sz := by
  intro n
  induction n with
  | zero =>
    intro x0 x2 x3 x5 v T0 h
    cases h
  | succ n H_5 =>
    intro x0 x2 x3 x5 v T0 h
    rw [fX9_packedLetters_5] at h
    refine g_iload C (i := 5) dX9_packedLetters_5 3 rfl ?_
    refine g_iload_n C (f := 2) dX9_packedLetters_7 1 rfl ?_
    refine g_icmp_ge C 26 dX9_packedLetters_8 rfl (fun c1 => ?_) (fun c1 => ?_)
    · replace h := if_t h c1
      refine g_lload_n C (f := 3) dX9_packedLetters_26 2 rfl ?_
      cases h
      exact g_lret C dX9_packedLetters_27 hr hlk
    · replace h := if_f h c1
      refine g_lload_n C (f := 3) dX9_packedLetters_11 2 rfl ?_
      refine g_aload_n C (f := 0) dX9_packedLetters_12 0 rfl ?_
      refine g_iload C (i := 5) dX9_packedLetters_13 3 rfl ?_
      obtain ⟨c2, h⟩ := ck_e h
      refine g_bald C 2000 dX9_packedLetters_15 (rg_ hC T0.1) T0.2.1 T0.2.2 c2 ?_
      obtain ⟨q3, eq3, h⟩ := bd_e h
      refine g_cS C [(1, x3), (0, v x0 x5)] (cX9_withLetter_ok l hC eq3) km_RX9_37 cs_X9_withLetter rfl (by decide) rfl rfl (Nat.le_of_ble_eq_true rfl) dX9_packedLetters_16 ?_
      refine g_lstore_n C (f := 3) (ls' := [(3, (1, q3.1)), (0, (2, x0)), (2, (0, x2)), (5, (0, x5))]) dX9_packedLetters_19 (by decide) rfl ?_
      obtain ⟨y4, ey4, h⟩ := lt_e h
      refine g_iincx C (ls' := [(5, (0, y4)), (3, (1, q3.1)), (0, (2, x0)), (2, (0, x2))]) ey4 dX9_packedLetters_20 3 rfl (by decide) (by decide) rfl ?_
      refine g_goto C 5 dX9_packedLetters_23 rfl ?_
      refine g_sub [2, 3, 1, 0] rfl rfl ?_
      exact H_5 _ _ _ _ _ T0 h
end
theorem cX9_packedLetters_ok (l : Launch) {E : En_} {sz : Int} (hC : Cl_ E.2.2.2.2.2 sz) {x0 x1 x2 : Int} {v : V_} {out : Int × V_} (T0 : (E.2.2.2.2.2 x0 ∧ ty_ x0 = 21 ∧ ln_ x0 = 2000)) (h : fX9_packedLetters x0 x1 x2 v = some out) : Met l yX9_packedLetters [.code yX9_packedLetters cX9_packedLetters 6 (some FieldType.long)] (rm_ 1 22) (Pc_ E sz v [(2, x0), (0, x1), (0, x2)]) (Qc_ E sz 1 out.1 out.2) 0 0 (fun q => E.1 < q) := by
  refine met_G0 RX9 (by decide +kernel) rfl (Nat.le_of_ble_eq_true rfl) ?_
  intro p e s m args below meth c C hr hlk
  rw [fX9_packedLetters] at h
  refine g_lconst C (z := 0) dX9_packedLetters_0 (by decide) ?_
  refine g_lstore_n C (f := 3) (ls' := [(3, (1, 0)), (0, (2, x0)), (1, (0, x1)), (2, (0, x2))]) dX9_packedLetters_1 (by decide) rfl ?_
  refine g_iload_n C (f := 1) dX9_packedLetters_2 2 rfl ?_
  refine g_istore C (i := 5) (ls' := [(5, (0, x1)), (3, (1, 0)), (0, (2, x0)), (1, (0, x1)), (2, (0, x2))]) dX9_packedLetters_3 (by decide) rfl ?_
  refine g_sub [2, 4, 1, 0] rfl rfl ?_
  exact tX9_packedLetters_5 C hr hlk hC _ _ _ _ _ _ T0 h
theorem dX9_sortOfWord_0 : decode cX9_sortOfWord 0 = .ok (.iconst 0, 1) := by decide +kernel
theorem dX9_sortOfWord_1 : decode cX9_sortOfWord 1 = .ok (.istore_n 3, 1) := by decide +kernel
theorem dX9_sortOfWord_2 : decode cX9_sortOfWord 2 = .ok (.iload_n 3, 1) := by decide +kernel
theorem dX9_sortOfWord_3 : decode cX9_sortOfWord 3 = .ok (.bipush 17, 2) := by decide +kernel
theorem dX9_sortOfWord_5 : decode cX9_sortOfWord 5 = .ok (.if_icmp .ge 22, 3) := by decide +kernel
theorem dX9_sortOfWord_8 : decode cX9_sortOfWord 8 = .ok (.aload_n 0, 1) := by decide +kernel
theorem dX9_sortOfWord_9 : decode cX9_sortOfWord 9 = .ok (.getfield 11, 3) := by decide +kernel
theorem dX9_sortOfWord_12 : decode cX9_sortOfWord 12 = .ok (.iload_n 3, 1) := by decide +kernel
theorem dX9_sortOfWord_13 : decode cX9_sortOfWord 13 = .ok (.laload, 1) := by decide +kernel
theorem dX9_sortOfWord_14 : decode cX9_sortOfWord 14 = .ok (.lload_n 1, 1) := by decide +kernel
theorem dX9_sortOfWord_15 : decode cX9_sortOfWord 15 = .ok (.lcmp, 1) := by decide +kernel
theorem dX9_sortOfWord_16 : decode cX9_sortOfWord 16 = .ok (.ifCond .ne 5, 3) := by decide +kernel
theorem dX9_sortOfWord_19 : decode cX9_sortOfWord 19 = .ok (.iload_n 3, 1) := by decide +kernel
theorem dX9_sortOfWord_20 : decode cX9_sortOfWord 20 = .ok (.ireturn, 1) := by decide +kernel
theorem dX9_sortOfWord_21 : decode cX9_sortOfWord 21 = .ok (.iinc 3 1, 3) := by decide +kernel
theorem dX9_sortOfWord_24 : decode cX9_sortOfWord 24 = .ok (.goto (-22), 3) := by decide +kernel
theorem dX9_sortOfWord_27 : decode cX9_sortOfWord 27 = .ok (.bipush 17, 2) := by decide +kernel
theorem dX9_sortOfWord_29 : decode cX9_sortOfWord 29 = .ok (.ireturn, 1) := by decide +kernel
def fX9_sortOfWord_2 : Nat → Int → Int → Int → V_ → Option (Int × V_)
  | 0, _, _, _, _ => none
  | n + 1, x0, x1, x3, v =>
    if 17 ≤ x3 then (
      some (17, v))
    else (
      ck_ (0 ≤ x3 ∧ x3 < 17) (
      if (lc_ (v (x0 + 1) x3) x1) = 0 then (
        some (x3, v))
      else (
        lt_ (wr_ (x3 + 1)) fun y5 =>
        (fX9_sortOfWord_2 n) x0 x1 y5 v)))
def fX9_sortOfWord (x0 x1 : Int) (v : V_) : Option (Int × V_) :=
  fX9_sortOfWord_2 fu_ x0 x1 0 v
section
variable {E : En_} {p : Program} {l : Launch} {e : Env} {s : State} {m : MethodId} {args : Array Value} {below : List Frame} {meth : Method} {c : Code} {sz : Int}
theorem tX9_sortOfWord_2 (C : MC_ E p s m c cX9_sortOfWord 4 RX9) (hr : meth.sig.returnType = (some FieldType.int)) (hlk : meth.locks = false) (hC : Cl_ E.2.2.2.2.2 sz) {out : Int × V_} : ∀ (n : Nat) (x0 x1 x3 : Int) (v : V_), (E.2.2.2.2.2 x0 ∧ ty_ x0 = 9 ∧ ln_ x0 = 0) → fX9_sortOfWord_2 n x0 x1 x3 v = some out → G_ E p l e (rm_ 0 0) s m args below meth c 4 sz (Q_ E below args s sz sz 0 out.1 out.2) 2 [(0, (2, x0)), (1, (1, x1)), (3, (0, x3))] [] v sz := by
  intro n
  induction n with
  | zero =>
    intro x0 x1 x3 v T0 h
    cases h
  | succ n H_2 =>
    intro x0 x1 x3 v T0 h
    rw [fX9_sortOfWord_2] at h
    refine g_iload_n C (f := 3) dX9_sortOfWord_2 2 rfl ?_
    refine g_bipush C (n := 17) dX9_sortOfWord_3 (by decide) ?_
    refine g_icmp_ge C 27 dX9_sortOfWord_5 rfl (fun c1 => ?_) (fun c1 => ?_)
    · replace h := if_t h c1
      refine g_bipush C (n := 17) dX9_sortOfWord_27 (by decide) ?_
      cases h
      exact g_iret C dX9_sortOfWord_29 hr hlk
    · replace h := if_f h c1
      refine g_aload_n C (f := 0) dX9_sortOfWord_8 0 rfl ?_
      have F2 := fX9_0 hC T0.1 T0.2.1
      refine g_getR C (k := 0) (o := 1) okX9 (by decide) kf_RX9_11 dX9_sortOfWord_9 hC T0.1 T0.2.1 rfl rfl ?_
      refine g_iload_n C (f := 3) dX9_sortOfWord_12 2 rfl ?_
      obtain ⟨c3, h⟩ := ck_e h
      refine g_lald C 17 dX9_sortOfWord_13 (rg_ hC F2.1) F2.2.1 F2.2.2 c3 ?_
      refine g_lload_n C (f := 1) dX9_sortOfWord_14 1 rfl ?_
      refine g_lcmp C dX9_sortOfWord_15 ?_
      refine g_if_ne C 21 dX9_sortOfWord_16 rfl (fun c4 => ?_) (fun c4 => ?_)
      · replace h := if_f h c4
        obtain ⟨y5, ey5, h⟩ := lt_e h
        refine g_iincx C (ls' := [(3, (0, y5)), (0, (2, x0)), (1, (1, x1))]) ey5 dX9_sortOfWord_21 2 rfl (by decide) (by decide) rfl ?_
        refine g_goto C 2 dX9_sortOfWord_24 rfl ?_
        refine g_sub [1, 2, 0] rfl rfl ?_
        exact H_2 _ _ _ _ T0 h
      · replace h := if_t h c4
        refine g_iload_n C (f := 3) dX9_sortOfWord_19 2 rfl ?_
        cases h
        exact g_iret C dX9_sortOfWord_20 hr hlk
end
theorem cX9_sortOfWord_ok (l : Launch) {E : En_} {sz : Int} (hC : Cl_ E.2.2.2.2.2 sz) {x0 x1 : Int} {v : V_} {out : Int × V_} (T0 : (E.2.2.2.2.2 x0 ∧ ty_ x0 = 9 ∧ ln_ x0 = 0)) (h : fX9_sortOfWord x0 x1 v = some out) : Met l yX9_sortOfWord [.code yX9_sortOfWord cX9_sortOfWord 4 (some FieldType.int)] (rm_ 0 0) (Pc_ E sz v [(2, x0), (1, x1)]) (Qc_ E sz 0 out.1 out.2) 0 0 (fun q => E.1 < q) := by
  refine met_G0 RX9 (by decide +kernel) rfl (Nat.le_of_ble_eq_true rfl) ?_
  intro p e s m args below meth c C hr hlk
  rw [fX9_sortOfWord] at h
  refine g_iconst C (n := 0) dX9_sortOfWord_0 (by decide) ?_
  refine g_istore_n C (f := 3) (ls' := [(3, (0, 0)), (0, (2, x0)), (1, (1, x1))]) dX9_sortOfWord_1 (by decide) rfl ?_
  refine g_sub [1, 2, 0] rfl rfl ?_
  exact tX9_sortOfWord_2 C hr hlk hC _ _ _ _ _ T0 h
