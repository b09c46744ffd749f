theorem dX11_member_0 : decode cX11_member 0 = .ok (.aload_n 0, 1) := by decide +kernel
theorem dX11_member_1 : decode cX11_member 1 = .ok (.invokevirtual 145, 3) := by decide +kernel
theorem dX11_member_4 : decode cX11_member 4 = .ok (.iload_n 1, 1) := by decide +kernel
theorem dX11_member_5 : decode cX11_member 5 = .ok (.invokevirtual 227, 3) := by decide +kernel
theorem dX11_member_8 : decode cX11_member 8 = .ok (.astore_n 3, 1) := by decide +kernel
theorem dX11_member_9 : decode cX11_member 9 = .ok (.aload_n 3, 1) := by decide +kernel
theorem dX11_member_10 : decode cX11_member 10 = .ok (.ifnull 15, 3) := by decide +kernel
theorem dX11_member_13 : decode cX11_member 13 = .ok (.iload_n 2, 1) := by decide +kernel
theorem dX11_member_14 : decode cX11_member 14 = .ok (.ifCond .lt 11, 3) := by decide +kernel
theorem dX11_member_17 : decode cX11_member 17 = .ok (.iload_n 2, 1) := by decide +kernel
theorem dX11_member_18 : decode cX11_member 18 = .ok (.aload_n 3, 1) := by decide +kernel
theorem dX11_member_19 : decode cX11_member 19 = .ok (.getfield 231, 3) := by decide +kernel
theorem dX11_member_22 : decode cX11_member 22 = .ok (.if_icmp .lt 7, 3) := by decide +kernel
theorem dX11_member_25 : decode cX11_member 25 = .ok (.iconst (-1), 1) := by decide +kernel
theorem dX11_member_26 : decode cX11_member 26 = .ok (.goto 9, 3) := by decide +kernel
theorem dX11_member_29 : decode cX11_member 29 = .ok (.aload_n 3, 1) := by decide +kernel
theorem dX11_member_30 : decode cX11_member 30 = .ok (.getfield 261, 3) := by decide +kernel
theorem dX11_member_33 : decode cX11_member 33 = .ok (.iload_n 2, 1) := by decide +kernel
theorem dX11_member_34 : decode cX11_member 34 = .ok (.iaload, 1) := by decide +kernel
theorem dX11_member_35 : decode cX11_member 35 = .ok (.ireturn, 1) := by decide +kernel
def fX11_member (x0 x1 x2 : Int) (v : V_) : Option (Int × V_) :=
  bd_ (fX11_knownPlan x0 v) fun q1 =>
  bd_ (fX4_traceAt q1.1 x1 q1.2) fun q3 =>
  if q3.1 = 0 then (
    some ((-1), q3.2))
  else (
    if x2 < 0 then (
      some ((-1), q3.2))
    else (
      if x2 < (q3.2 q3.1 1) then (
        ck_ (0 ≤ x2 ∧ x2 < 4) (
        some (q3.2 (q3.1 + 1) x2, q3.2)))
      else (
        some ((-1), q3.2))))
theorem cX11_member_ok (l : Launch) {E : En_} {sz : Int} (hC : Cl_ E.2.2.2.2.2 sz) (hG : Pg_ E.2.2.2.2.2) {x0 x1 x2 : Int} {v : V_} {out : Int × V_} (T0 : (E.2.2.2.2.2 x0 ∧ ty_ x0 = 11 ∧ ln_ x0 = 0)) (h : fX11_member x0 x1 x2 v = some out) : Met l yX11_member [.code yX11_member cX11_member 4 (some FieldType.int)] (rm_ 6 143) (Pc_ E sz v [(2, x0), (0, x1), (0, x2)]) (Qc_ E sz 0 out.1 out.2) 0 0 (fun q => E.1 < q) := by
  refine met_G0 RX11 (by decide +kernel) rfl (Nat.le_of_ble_eq_true rfl) ?_
  intro p e s m args below meth c C hr hlk
  rw [fX11_member] at h
  refine g_aload_n C (f := 0) dX11_member_0 0 rfl ?_
  obtain ⟨q1, eq1, h⟩ := bd_e h
  refine g_cV C [] (cX11_knownPlan_ok l hC hG T0 eq1) okX11 T0.2.1 (rg_ hC T0.1) km_RX11_145 cv_X11_knownPlan rfl (by decide) rfl rfl (Nat.le_of_ble_eq_true rfl) dX11_member_1 ?_
  have F2 := rX11_knownPlan_ok hC hG T0 eq1
  refine g_iload_n C (f := 1) dX11_member_4 1 rfl ?_
  obtain ⟨q3, eq3, h⟩ := bd_e h
  refine g_cV C [(0, x1)] (cX4_traceAt_ok l hC F2 eq3) okX4 F2.2.1 (rg_ hC F2.1) km_RX11_227 cv_X4_traceAt rfl (by decide) rfl rfl (Nat.le_of_ble_eq_true rfl) dX11_member_5 ?_
  have F4 := rX4_traceAt_ok hC F2 eq3
  refine g_astore_n C (f := 3) (ls' := [(3, (2, q3.1)), (0, (2, x0)), (1, (0, x1)), (2, (0, x2))]) dX11_member_8 (by decide) rfl ?_
  refine g_aload_n C (f := 3) dX11_member_9 0 rfl ?_
  refine g_ifnull C 25 dX11_member_10 rfl (fun c5 => ?_) (fun c5 => ?_)
  · replace h := if_t h c5
    refine g_iconst C (n := (-1)) dX11_member_25 (by decide) ?_
    refine g_goto C 35 dX11_member_26 rfl ?_
    cases h
    exact g_iret C dX11_member_35 hr hlk
  · replace h := if_f h c5
    have F6 := Or.resolve_left F4 c5
    refine g_iload_n C (f := 2) dX11_member_13 3 rfl ?_
    refine g_if_lt C 25 dX11_member_14 rfl (fun c7 => ?_) (fun c7 => ?_)
    · replace h := if_t h c7
      refine g_iconst C (n := (-1)) dX11_member_25 (by decide) ?_
      refine g_goto C 35 dX11_member_26 rfl ?_
      cases h
      exact g_iret C dX11_member_35 hr hlk
    · replace h := if_f h c7
      refine g_iload_n C (f := 2) dX11_member_17 3 rfl ?_
      refine g_aload_n C (f := 3) dX11_member_18 0 rfl ?_
      refine g_getf C (k := 1) (kd := 0) okX10 (by decide) kf_RX11_231 dX11_member_19 (rg_ hC F6.1) F6.2.1 rfl ?_
      refine g_icmp_lt C 29 dX11_member_22 rfl (fun c8 => ?_) (fun c8 => ?_)
      · replace h := if_t h c8
        refine g_aload_n C (f := 3) dX11_member_29 0 rfl ?_
        have F9 := fX10_0 hC F6.1 F6.2.1
        refine g_getR C (k := 0) (o := 1) okX10 (by decide) kf_RX11_261 dX11_member_30 hC F6.1 F6.2.1 rfl rfl ?_
        refine g_iload_n C (f := 2) dX11_member_33 3 rfl ?_
        obtain ⟨c10, h⟩ := ck_e h
        refine g_iald C 4 dX11_member_34 (rg_ hC F9.1) F9.2.1 F9.2.2 c10 ?_
        cases h
        exact g_iret C dX11_member_35 hr hlk
      · replace h := if_f h c8
        refine g_iconst C (n := (-1)) dX11_member_25 (by decide) ?_
        refine g_goto C 35 dX11_member_26 rfl ?_
        cases h
        exact g_iret C dX11_member_35 hr hlk
theorem dX11_needs_0 : decode cX11_needs 0 = .ok (.aload_n 0, 1) := by decide +kernel
theorem dX11_needs_1 : decode cX11_needs 1 = .ok (.invokevirtual 145, 3) := by decide +kernel
theorem dX11_needs_4 : decode cX11_needs 4 = .ok (.iload_n 1, 1) := by decide +kernel
theorem dX11_needs_5 : decode cX11_needs 5 = .ok (.invokevirtual 227, 3) := by decide +kernel
theorem dX11_needs_8 : decode cX11_needs 8 = .ok (.astore 4, 2) := by decide +kernel
theorem dX11_needs_10 : decode cX11_needs 10 = .ok (.aload 4, 2) := by decide +kernel
theorem dX11_needs_12 : decode cX11_needs 12 = .ok (.iload_n 2, 1) := by decide +kernel
theorem dX11_needs_13 : decode cX11_needs 13 = .ok (.invokestatic 264, 3) := by decide +kernel
theorem dX11_needs_16 : decode cX11_needs 16 = .ok (.ifnull 17, 3) := by decide +kernel
theorem dX11_needs_19 : decode cX11_needs 19 = .ok (.aload 4, 2) := by decide +kernel
theorem dX11_needs_21 : decode cX11_needs 21 = .ok (.iload_n 3, 1) := by decide +kernel
theorem dX11_needs_22 : decode cX11_needs 22 = .ok (.invokestatic 264, 3) := by decide +kernel
theorem dX11_needs_25 : decode cX11_needs 25 = .ok (.ifnull 8, 3) := by decide +kernel
theorem dX11_needs_28 : decode cX11_needs 28 = .ok (.iload_n 2, 1) := by decide +kernel
theorem dX11_needs_29 : decode cX11_needs 29 = .ok (.iload_n 3, 1) := by decide +kernel
theorem dX11_needs_30 : decode cX11_needs 30 = .ok (.if_icmp .lt 5, 3) := by decide +kernel
theorem dX11_needs_33 : decode cX11_needs 33 = .ok (.iconst (-1), 1) := by decide +kernel
theorem dX11_needs_34 : decode cX11_needs 34 = .ok (.ireturn, 1) := by decide +kernel
theorem dX11_needs_35 : decode cX11_needs 35 = .ok (.aload 4, 2) := by decide +kernel
theorem dX11_needs_37 : decode cX11_needs 37 = .ok (.iload_n 2, 1) := by decide +kernel
theorem dX11_needs_38 : decode cX11_needs 38 = .ok (.iload_n 3, 1) := by decide +kernel
theorem dX11_needs_39 : decode cX11_needs 39 = .ok (.invokevirtual 300, 3) := by decide +kernel
theorem dX11_needs_42 : decode cX11_needs 42 = .ok (.ireturn, 1) := by decide +kernel
def fX11_needs (x0 x1 x2 x3 : Int) (v : V_) : Option (Int × V_) :=
  bd_ (fX11_knownPlan x0 v) fun q1 =>
  bd_ (fX4_traceAt q1.1 x1 q1.2) fun q3 =>
  bd_ (fX11_itemOf q3.1 x2 q3.2) fun q5 =>
  if q5.1 = 0 then (
    some ((-1), q5.2))
  else (
    bd_ (fX11_itemOf q3.1 x3 q5.2) fun q9 =>
    if q9.1 = 0 then (
      some ((-1), q9.2))
    else (
      if x2 < x3 then (
        ck_ (¬ q3.1 = 0) (
        bd_ (fX10_needOf q3.1 x2 x3 q9.2) fun q16 =>
        some (q16.1, q16.2)))
      else (
        some ((-1), q9.2))))
theorem cX11_needs_ok (l : Launch) {E : En_} {sz : Int} (hC : Cl_ E.2.2.2.2.2 sz) (hG : Pg_ E.2.2.2.2.2) {x0 x1 x2 x3 : Int} {v : V_} {out : Int × V_} (T0 : (E.2.2.2.2.2 x0 ∧ ty_ x0 = 11 ∧ ln_ x0 = 0)) (h : fX11_needs x0 x1 x2 x3 v = some out) : Met l yX11_needs [.code yX11_needs cX11_needs 5 (some FieldType.int)] (rm_ 6 143) (Pc_ E sz v [(2, x0), (0, x1), (0, x2), (0, x3)]) (Qc_ E sz 0 out.1 out.2) 0 0 (fun q => E.1 < q) := by
  refine met_G0 RX11 (by decide +kernel) rfl (Nat.le_of_ble_eq_true rfl) ?_
  intro p e s m args below meth c C hr hlk
  rw [fX11_needs] at h
  refine g_aload_n C (f := 0) dX11_needs_0 0 rfl ?_
  obtain ⟨q1, eq1, h⟩ := bd_e h
  refine g_cV C [] (cX11_knownPlan_ok l hC hG T0 eq1) okX11 T0.2.1 (rg_ hC T0.1) km_RX11_145 cv_X11_knownPlan rfl (by decide) rfl rfl (Nat.le_of_ble_eq_true rfl) dX11_needs_1 ?_
  have F2 := rX11_knownPlan_ok hC hG T0 eq1
  refine g_iload_n C (f := 1) dX11_needs_4 1 rfl ?_
  obtain ⟨q3, eq3, h⟩ := bd_e h
  refine g_cV C [(0, x1)] (cX4_traceAt_ok l hC F2 eq3) okX4 F2.2.1 (rg_ hC F2.1) km_RX11_227 cv_X4_traceAt rfl (by decide) rfl rfl (Nat.le_of_ble_eq_true rfl) dX11_needs_5 ?_
  have F4 := rX4_traceAt_ok hC F2 eq3
  refine g_astore C (i := 4) (ls' := [(4, (2, q3.1)), (0, (2, x0)), (1, (0, x1)), (2, (0, x2)), (3, (0, x3))]) dX11_needs_8 (by decide) rfl ?_
  refine g_aload C (i := 4) dX11_needs_10 0 rfl ?_
  refine g_iload_n C (f := 2) dX11_needs_12 3 rfl ?_
  obtain ⟨q5, eq5, h⟩ := bd_e h
  refine g_cS C [(2, q3.1), (0, x2)] (cX11_itemOf_ok l hC F4 eq5) km_RX11_264 cs_X11_itemOf rfl (by decide) rfl rfl (Nat.le_of_ble_eq_true rfl) dX11_needs_13 ?_
  have F6 := rX11_itemOf_ok hC F4 eq5
  refine g_ifnull C 33 dX11_needs_16 rfl (fun c7 => ?_) (fun c7 => ?_)
  · replace h := if_t h c7
    refine g_iconst C (n := (-1)) dX11_needs_33 (by decide) ?_
    cases h
    exact g_iret C dX11_needs_34 hr hlk
  · replace h := if_f h c7
    have F8 := Or.resolve_left F6 c7
    refine g_aload C (i := 4) dX11_needs_19 0 rfl ?_
    refine g_iload_n C (f := 3) dX11_needs_21 4 rfl ?_
    obtain ⟨q9, eq9, h⟩ := bd_e h
    refine g_cS C [(2, q3.1), (0, x3)] (cX11_itemOf_ok l hC F4 eq9) km_RX11_264 cs_X11_itemOf rfl (by decide) rfl rfl (Nat.le_of_ble_eq_true rfl) dX11_needs_22 ?_
    have F10 := rX11_itemOf_ok hC F4 eq9
    refine g_ifnull C 33 dX11_needs_25 rfl (fun c11 => ?_) (fun c11 => ?_)
    · replace h := if_t h c11
      refine g_iconst C (n := (-1)) dX11_needs_33 (by decide) ?_
      cases h
      exact g_iret C dX11_needs_34 hr hlk
    · replace h := if_f h c11
      have F12 := Or.resolve_left F10 c11
      refine g_iload_n C (f := 2) dX11_needs_28 3 rfl ?_
      refine g_iload_n C (f := 3) dX11_needs_29 4 rfl ?_
      refine g_icmp_lt C 35 dX11_needs_30 rfl (fun c13 => ?_) (fun c13 => ?_)
      · replace h := if_t h c13
        refine g_aload C (i := 4) dX11_needs_35 0 rfl ?_
        refine g_iload_n C (f := 2) dX11_needs_37 3 rfl ?_
        refine g_iload_n C (f := 3) dX11_needs_38 4 rfl ?_
        obtain ⟨c14, h⟩ := ck_e h
        have F15 := Or.resolve_left F4 c14
        obtain ⟨q16, eq16, h⟩ := bd_e h
        refine g_cV C [(0, x2), (0, x3)] (cX10_needOf_ok l hC F15 eq16) okX10 F15.2.1 (rg_ hC F15.1) km_RX11_300 cv_X10_needOf rfl (by decide) rfl rfl (Nat.le_of_ble_eq_true rfl) dX11_needs_39 ?_
        cases h
        exact g_iret C dX11_needs_42 hr hlk
      · replace h := if_f h c13
        refine g_iconst C (n := (-1)) dX11_needs_33 (by decide) ?_
        cases h
        exact g_iret C dX11_needs_34 hr hlk
theorem dX11_place_0 : decode cX11_place 0 = .ok (.aload_n 0, 1) := by decide +kernel
theorem dX11_place_1 : decode cX11_place 1 = .ok (.getfield 13, 3) := by decide +kernel
theorem dX11_place_4 : decode cX11_place 4 = .ok (.ireturn, 1) := by decide +kernel
def fX11_place (x0 : Int) (v : V_) : Option (Int × V_) :=
  some (v x0 2, v)
theorem cX11_place_ok (l : Launch) {E : En_} {sz : Int} (hC : Cl_ E.2.2.2.2.2 sz) (hG : Pg_ E.2.2.2.2.2) {x0 : Int} {v : V_} {out : Int × V_} (T0 : (E.2.2.2.2.2 x0 ∧ ty_ x0 = 11 ∧ ln_ x0 = 0)) (h : fX11_place x0 v = some out) : Met l yX11_place [.code yX11_place cX11_place 1 (some FieldType.int)] (rm_ 0 0) (Pc_ E sz v [(2, x0)]) (Qc_ E sz 0 out.1 out.2) 0 0 (fun q => E.1 < q) := by
  refine met_G0 RX11 (by decide +kernel) rfl (Nat.le_of_ble_eq_true rfl) ?_
  intro p e s m args below meth c C hr hlk
  rw [fX11_place] at h
  refine g_aload_n C (f := 0) dX11_place_0 0 rfl ?_
  refine g_getf C (k := 2) (kd := 0) okX11 (by decide) kf_RX11_13 dX11_place_1 (rg_ hC T0.1) T0.2.1 rfl ?_
  cases h
  exact g_iret C dX11_place_4 hr hlk
theorem dX11_put_0 : decode cX11_put 0 = .ok (.iload_n 1, 1) := by decide +kernel
theorem dX11_put_1 : decode cX11_put 1 = .ok (.invokestatic 104, 3) := by decide +kernel
theorem dX11_put_4 : decode cX11_put 4 = .ok (.ifCond .eq 15, 3) := by decide +kernel
theorem dX11_put_7 : decode cX11_put 7 = .ok (.aload_n 0, 1) := by decide +kernel
theorem dX11_put_8 : decode cX11_put 8 = .ok (.getfield 37, 3) := by decide +kernel
theorem dX11_put_11 : decode cX11_put 11 = .ok (.iload_n 1, 1) := by decide +kernel
theorem dX11_put_12 : decode cX11_put 12 = .ok (.invokevirtual 107, 3) := by decide +kernel
theorem dX11_put_15 : decode cX11_put 15 = .ok (.iload_n 2, 1) := by decide +kernel
theorem dX11_put_16 : decode cX11_put 16 = .ok (.if_icmp .ne 5, 3) := by decide +kernel
theorem dX11_put_19 : decode cX11_put 19 = .ok (.iconst 0, 1) := by decide +kernel
theorem dX11_put_20 : decode cX11_put 20 = .ok (.ireturn, 1) := by decide +kernel
theorem dX11_put_21 : decode cX11_put 21 = .ok (.aload_n 0, 1) := by decide +kernel
theorem dX11_put_22 : decode cX11_put 22 = .ok (.getfield 44, 3) := by decide +kernel
theorem dX11_put_25 : decode cX11_put 25 = .ok (.aload_n 0, 1) := by decide +kernel
theorem dX11_put_26 : decode cX11_put 26 = .ok (.getfield 37, 3) := by decide +kernel
theorem dX11_put_29 : decode cX11_put 29 = .ok (.invokevirtual 164, 3) := by decide +kernel
theorem dX11_put_32 : decode cX11_put 32 = .ok (.aload_n 0, 1) := by decide +kernel
theorem dX11_put_33 : decode cX11_put 33 = .ok (.getfield 37, 3) := by decide +kernel
theorem dX11_put_36 : decode cX11_put 36 = .ok (.iload_n 1, 1) := by decide +kernel
theorem dX11_put_37 : decode cX11_put 37 = .ok (.iload_n 2, 1) := by decide +kernel
theorem dX11_put_38 : decode cX11_put 38 = .ok (.invokevirtual 175, 3) := by decide +kernel
theorem dX11_put_41 : decode cX11_put 41 = .ok (.aload_n 0, 1) := by decide +kernel
theorem dX11_put_42 : decode cX11_put 42 = .ok (.invokevirtual 172, 3) := by decide +kernel
theorem dX11_put_45 : decode cX11_put 45 = .ok (.iconst 1, 1) := by decide +kernel
theorem dX11_put_46 : decode cX11_put 46 = .ok (.ireturn, 1) := by decide +kernel
def fX11_put (x0 x1 x2 : Int) (v : V_) : Option (Int × V_) :=
  bd_ (fX11_isCell x1 v) fun q1 =>
  if q1.1 = 0 then (
    some (0, q1.2))
  else (
    bd_ (fX7_cellAt (x0 + 139) x1 q1.2) fun q4 =>
    if q4.1 = x2 then (
      some (0, q4.2))
    else (
      bd_ (fX0_note (x0 + 141) (x0 + 139) q4.2) fun q8 =>
      bd_ (fX7_setCell (x0 + 139) x1 x2 q8.2) fun q10 =>
      bd_ (fX11_forgetRuns x0 q10.2) fun q11 =>
      some (1, q11.2)))
theorem cX11_put_ok (l : Launch) {E : En_} {sz : Int} (hC : Cl_ E.2.2.2.2.2 sz) (hG : Pg_ E.2.2.2.2.2) {x0 x1 x2 : Int} {v : V_} {out : Int × V_} (T0 : (E.2.2.2.2.2 x0 ∧ ty_ x0 = 11 ∧ ln_ x0 = 0)) (h : fX11_put x0 x1 x2 v = some out) : Met l yX11_put [.code yX11_put cX11_put 3 (some FieldType.boolean)] (rm_ 2 47) (Pc_ E sz v [(2, x0), (0, x1), (0, x2)]) (Qc_ E sz 0 out.1 out.2) 0 0 (fun q => E.1 < q) := by
  refine met_G0 RX11 (by decide +kernel) rfl (Nat.le_of_ble_eq_true rfl) ?_
  intro p e s m args below meth c C hr hlk
  rw [fX11_put] at h
  refine g_iload_n C (f := 1) dX11_put_0 1 rfl ?_
  obtain ⟨q1, eq1, h⟩ := bd_e h
  refine g_cS C [(0, x1)] (cX11_isCell_ok l hC eq1) km_RX11_104 cs_X11_isCell rfl (by decide) rfl rfl (Nat.le_of_ble_eq_true rfl) dX11_put_1 ?_
  refine g_if_eq C 19 dX11_put_4 rfl (fun c2 => ?_) (fun c2 => ?_)
  · replace h := if_t h c2
    refine g_iconst C (n := 0) dX11_put_19 (by decide) ?_
    cases h
    exact g_zret C dX11_put_20 hr hlk (Or.inl rfl)
  · replace h := if_f h c2
    refine g_aload_n C (f := 0) dX11_put_7 0 rfl ?_
    have F3 := fX11_6 hC T0.1 T0.2.1
    refine g_getR C (k := 6) (o := 139) okX11 (by decide) kf_RX11_37 dX11_put_8 hC T0.1 T0.2.1 rfl rfl ?_
    refine g_iload_n C (f := 1) dX11_put_11 1 rfl ?_
    obtain ⟨q4, eq4, h⟩ := bd_e h
    refine g_cV C [(0, x1)] (cX7_cellAt_ok l hC F3 eq4) okX7 F3.2.1 (rg_ hC F3.1) km_RX11_107 cv_X7_cellAt rfl (by decide) rfl rfl (Nat.le_of_ble_eq_true rfl) dX11_put_12 ?_
    refine g_iload_n C (f := 2) dX11_put_15 2 rfl ?_
    refine g_icmp_ne C 21 dX11_put_16 rfl (fun c5 => ?_) (fun c5 => ?_)
    · replace h := if_f h c5
      refine g_aload_n C (f := 0) dX11_put_21 0 rfl ?_
      have F6 := fX11_7 hC T0.1 T0.2.1
      refine g_getR C (k := 7) (o := 141) okX11 (by decide) kf_RX11_44 dX11_put_22 hC T0.1 T0.2.1 rfl rfl ?_
      refine g_aload_n C (f := 0) dX11_put_25 0 rfl ?_
      have F7 := fX11_6 hC T0.1 T0.2.1
      refine g_getR C (k := 6) (o := 139) okX11 (by decide) kf_RX11_37 dX11_put_26 hC T0.1 T0.2.1 rfl rfl ?_
      obtain ⟨q8, eq8, h⟩ := bd_e h
      refine g_cV C [(2, x0 + 139)] (cX0_note_ok l hC F6 F7 eq8) okX0 F6.2.1 (rg_ hC F6.1) km_RX11_164 cv_X0_note rfl (by decide) rfl rfl (Nat.le_of_ble_eq_true rfl) dX11_put_29 ?_
      refine g_aload_n C (f := 0) dX11_put_32 0 rfl ?_
      have F9 := fX11_6 hC T0.1 T0.2.1
      refine g_getR C (k := 6) (o := 139) okX11 (by decide) kf_RX11_37 dX11_put_33 hC T0.1 T0.2.1 rfl rfl ?_
      refine g_iload_n C (f := 1) dX11_put_36 1 rfl ?_
      refine g_iload_n C (f := 2) dX11_put_37 2 rfl ?_
      obtain ⟨q10, eq10, h⟩ := bd_e h
      refine g_cV C [(0, x1), (0, x2)] (cX7_setCell_ok l hC F9 eq10) okX7 F9.2.1 (rg_ hC F9.1) km_RX11_175 cv_X7_setCell rfl (by decide) rfl rfl (Nat.le_of_ble_eq_true rfl) dX11_put_38 ?_
      refine g_aload_n C (f := 0) dX11_put_41 0 rfl ?_
      obtain ⟨q11, eq11, h⟩ := bd_e h
      refine g_cV C [] (cX11_forgetRuns_ok l hC hG T0 eq11) okX11 T0.2.1 (rg_ hC T0.1) km_RX11_172 cv_X11_forgetRuns rfl (by decide) rfl rfl (Nat.le_of_ble_eq_true rfl) dX11_put_42 ?_
      refine g_iconst C (n := 1) dX11_put_45 (by decide) ?_
      cases h
      exact g_zret C dX11_put_46 hr hlk (Or.inr rfl)
    · replace h := if_t h c5
      refine g_iconst C (n := 0) dX11_put_19 (by decide) ?_
      cases h
      exact g_zret C dX11_put_20 hr hlk (Or.inl rfl)
theorem dX11_read_0 : decode cX11_read 0 = .ok (.aload_n 0, 1) := by decide +kernel
theorem dX11_read_1 : decode cX11_read 1 = .ok (.getfield 20, 3) := by decide +kernel
theorem dX11_read_4 : decode cX11_read 4 = .ok (.aload_n 0, 1) := by decide +kernel
theorem dX11_read_5 : decode cX11_read 5 = .ok (.getfield 9, 3) := by decide +kernel
theorem dX11_read_8 : decode cX11_read 8 = .ok (.aload_n 0, 1) := by decide +kernel
theorem dX11_read_9 : decode cX11_read 9 = .ok (.getfield 69, 3) := by decide +kernel
theorem dX11_read_12 : decode cX11_read 12 = .ok (.aload_n 0, 1) := by decide +kernel
theorem dX11_read_13 : decode cX11_read 13 = .ok (.getfield 31, 3) := by decide +kernel
theorem dX11_read_16 : decode cX11_read 16 = .ok (.invokevirtual 76, 3) := by decide +kernel
theorem dX11_read_19 : decode cX11_read 19 = .ok (.istore_n 1, 1) := by decide +kernel
theorem dX11_read_20 : decode cX11_read 20 = .ok (.aload_n 0, 1) := by decide +kernel
theorem dX11_read_21 : decode cX11_read 21 = .ok (.aload_n 0, 1) := by decide +kernel
theorem dX11_read_22 : decode cX11_read 22 = .ok (.getfield 20, 3) := by decide +kernel
theorem dX11_read_25 : decode cX11_read 25 = .ok (.invokevirtual 80, 3) := by decide +kernel
theorem dX11_read_28 : decode cX11_read 28 = .ok (.putfield 13, 3) := by decide +kernel
theorem dX11_read_31 : decode cX11_read 31 = .ok (.aload_n 0, 1) := by decide +kernel
theorem dX11_read_32 : decode cX11_read 32 = .ok (.iconst 0, 1) := by decide +kernel
theorem dX11_read_33 : decode cX11_read 33 = .ok (.putfield 69, 3) := by decide +kernel
theorem dX11_read_36 : decode cX11_read 36 = .ok (.iload_n 1, 1) := by decide +kernel
theorem dX11_read_37 : decode cX11_read 37 = .ok (.ifCond .eq 5, 3) := by decide +kernel
theorem dX11_read_40 : decode cX11_read 40 = .ok (.iload_n 1, 1) := by decide +kernel
theorem dX11_read_41 : decode cX11_read 41 = .ok (.ireturn, 1) := by decide +kernel
theorem dX11_read_42 : decode cX11_read 42 = .ok (.aload_n 0, 1) := by decide +kernel
theorem dX11_read_43 : decode cX11_read 43 = .ok (.getfield 27, 3) := by decide +kernel
theorem dX11_read_46 : decode cX11_read 46 = .ok (.astore_n 2, 1) := by decide +kernel
theorem dX11_read_47 : decode cX11_read 47 = .ok (.aload_n 0, 1) := by decide +kernel
theorem dX11_read_48 : decode cX11_read 48 = .ok (.aload_n 0, 1) := by decide +kernel
theorem dX11_read_49 : decode cX11_read 49 = .ok (.getfield 31, 3) := by decide +kernel
theorem dX11_read_52 : decode cX11_read 52 = .ok (.putfield 27, 3) := by decide +kernel
theorem dX11_read_55 : decode cX11_read 55 = .ok (.aload_n 0, 1) := by decide +kernel
theorem dX11_read_56 : decode cX11_read 56 = .ok (.aload_n 2, 1) := by decide +kernel
theorem dX11_read_57 : decode cX11_read 57 = .ok (.putfield 31, 3) := by decide +kernel
theorem dX11_read_60 : decode cX11_read 60 = .ok (.aload_n 0, 1) := by decide +kernel
theorem dX11_read_61 : decode cX11_read 61 = .ok (.getfield 27, 3) := by decide +kernel
theorem dX11_read_64 : decode cX11_read 64 = .ok (.invokevirtual 84, 3) := by decide +kernel
theorem dX11_read_67 : decode cX11_read 67 = .ok (.aload_n 0, 1) := by decide +kernel
theorem dX11_read_68 : decode cX11_read 68 = .ok (.getfield 37, 3) := by decide +kernel
theorem dX11_read_71 : decode cX11_read 71 = .ok (.aload_n 0, 1) := by decide +kernel
theorem dX11_read_72 : decode cX11_read 72 = .ok (.getfield 27, 3) := by decide +kernel
theorem dX11_read_75 : decode cX11_read 75 = .ok (.invokevirtual 65, 3) := by decide +kernel
theorem dX11_read_78 : decode cX11_read 78 = .ok (.aload_n 0, 1) := by decide +kernel
theorem dX11_read_79 : decode cX11_read 79 = .ok (.getfield 44, 3) := by decide +kernel
theorem dX11_read_82 : decode cX11_read 82 = .ok (.invokevirtual 87, 3) := by decide +kernel
theorem dX11_read_85 : decode cX11_read 85 = .ok (.aload_n 0, 1) := by decide +kernel
theorem dX11_read_86 : decode cX11_read 86 = .ok (.getfield 44, 3) := by decide +kernel
theorem dX11_read_89 : decode cX11_read 89 = .ok (.invokevirtual 90, 3) := by decide +kernel
theorem dX11_read_92 : decode cX11_read 92 = .ok (.aload_n 0, 1) := by decide +kernel
theorem dX11_read_93 : decode cX11_read 93 = .ok (.invokevirtual 93, 3) := by decide +kernel
theorem dX11_read_96 : decode cX11_read 96 = .ok (.iconst 0, 1) := by decide +kernel
theorem dX11_read_97 : decode cX11_read 97 = .ok (.ireturn, 1) := by decide +kernel
def fX11_read (x0 : Int) (v : V_) : Option (Int × V_) :=
  ck_ (v x0 5 = PA_ ∨ v x0 5 = PB_) (
  bd_ (fX3_parse (x0 + 2) (x0 + 1) (v x0 1) (v x0 5) v) fun q5 =>
  bd_ (fX3_placeOfFault (x0 + 2) q5.2) fun q7 =>
  lt_ (up_ q7.2 x0 2 q7.1) fun v8 =>
  lt_ (up_ v8 x0 1 0) fun v9 =>
  if q5.1 = 0 then (
    ck_ (v9 x0 4 = PA_ ∨ v9 x0 4 = PB_) (
    lt_ (v9 x0 4) fun y13 =>
    ck_ (v9 x0 5 = PA_ ∨ v9 x0 5 = PB_) (
    lt_ (up_ v9 x0 4 (v9 x0 5)) fun v17 =>
    lt_ (up_ v17 x0 5 y13) fun v18 =>
    ck_ (v18 x0 4 = PA_ ∨ v18 x0 4 = PB_) (
    bd_ (fX5_findLive (v18 x0 4) v18) fun q21 =>
    ck_ (q21.2 x0 4 = PA_ ∨ q21.2 x0 4 = PB_) (
    bd_ (fX7_begin (x0 + 139) (q21.2 x0 4) q21.2) fun q25 =>
    bd_ (fX0_forgetDone (x0 + 141) q25.2) fun q27 =>
    bd_ (fX0_forgetHeld (x0 + 141) q27.2) fun q29 =>
    bd_ (fX11_forgetAll x0 q29.2) fun q30 =>
    some (0, q30.2))))))
  else (
    some (q5.1, v9)))
theorem cX11_read_ok (l : Launch) {E : En_} {sz : Int} (hC : Cl_ E.2.2.2.2.2 sz) (hG : Pg_ E.2.2.2.2.2) {x0 : Int} {v : V_} {out : Int × V_} (T0 : (E.2.2.2.2.2 x0 ∧ ty_ x0 = 11 ∧ ln_ x0 = 0)) (h : fX11_read x0 v = some out) : Met l yX11_read [.code yX11_read cX11_read 3 (some FieldType.int)] (rm_ 7 155) (Pc_ E sz v [(2, x0)]) (Qc_ E sz 0 out.1 out.2) 0 0 (fun q => E.1 < q) := by
  refine met_G0 RX11 (by decide +kernel) rfl (Nat.le_of_ble_eq_true rfl) ?_
  intro p e s m args below meth c C hr hlk
  rw [fX11_read] at h
  refine g_aload_n C (f := 0) dX11_read_0 0 rfl ?_
  have F1 := fX11_3 hC T0.1 T0.2.1
  refine g_getR C (k := 3) (o := 2) okX11 (by decide) kf_RX11_20 dX11_read_1 hC T0.1 T0.2.1 rfl rfl ?_
  refine g_aload_n C (f := 0) dX11_read_4 0 rfl ?_
  have F2 := fX11_0 hC T0.1 T0.2.1
  refine g_getR C (k := 0) (o := 1) okX11 (by decide) kf_RX11_9 dX11_read_5 hC T0.1 T0.2.1 rfl rfl ?_
  refine g_aload_n C (f := 0) dX11_read_8 0 rfl ?_
  refine g_getf C (k := 1) (kd := 0) okX11 (by decide) kf_RX11_69 dX11_read_9 (rg_ hC T0.1) T0.2.1 rfl ?_
  refine g_aload_n C (f := 0) dX11_read_12 0 rfl ?_
  obtain ⟨c3, h⟩ := ck_e h
  refine g_getf C (k := 5) (kd := 2) okX11 (by decide) kf_RX11_31 dX11_read_13 (rg_ hC T0.1) T0.2.1 rfl ?_
  have F4 := pgF_ hG c3
  obtain ⟨q5, eq5, h⟩ := bd_e h
  refine g_cV C [(2, x0 + 1), (0, v x0 1), (2, v x0 5)] (cX3_parse_ok l hC hG F1 F2 F4 eq5) okX3 F1.2.1 (rg_ hC F1.1) km_RX11_76 cv_X3_parse rfl (by decide) rfl rfl (Nat.le_of_ble_eq_true rfl) dX11_read_16 ?_
  refine g_istore_n C (f := 1) (ls' := [(1, (0, q5.1)), (0, (2, x0))]) dX11_read_19 (by decide) rfl ?_
  refine g_aload_n C (f := 0) dX11_read_20 1 rfl ?_
  refine g_aload_n C (f := 0) dX11_read_21 1 rfl ?_
  have F6 := fX11_3 hC T0.1 T0.2.1
  refine g_getR C (k := 3) (o := 2) okX11 (by decide) kf_RX11_20 dX11_read_22 hC T0.1 T0.2.1 rfl rfl ?_
  obtain ⟨q7, eq7, h⟩ := bd_e h
  refine g_cV C [] (cX3_placeOfFault_ok l hC hG F6 eq7) okX3 F6.2.1 (rg_ hC F6.1) km_RX11_80 cv_X3_placeOfFault rfl (by decide) rfl rfl (Nat.le_of_ble_eq_true rfl) dX11_read_25 ?_
  obtain ⟨v8, ev8, h⟩ := lt_e h
  refine g_putf C (k := 2) (kd := 0) okX11 (by decide) kf_RX11_13 dX11_read_28 (rg_ hC T0.1) T0.2.1 rfl rfl nvI (Or.inl rfl) v8 ev8 ?_
  refine g_aload_n C (f := 0) dX11_read_31 1 rfl ?_
  refine g_iconst C (n := 0) dX11_read_32 (by decide) ?_
  obtain ⟨v9, ev9, h⟩ := lt_e h
  refine g_putf C (k := 1) (kd := 0) okX11 (by decide) kf_RX11_69 dX11_read_33 (rg_ hC T0.1) T0.2.1 rfl rfl nvI (Or.inl rfl) v9 ev9 ?_
  refine g_iload_n C (f := 1) dX11_read_36 0 rfl ?_
  refine g_if_eq C 42 dX11_read_37 rfl (fun c10 => ?_) (fun c10 => ?_)
  · replace h := if_t h c10
    refine g_aload_n C (f := 0) dX11_read_42 1 rfl ?_
    obtain ⟨c11, h⟩ := ck_e h
    refine g_getf C (k := 4) (kd := 2) okX11 (by decide) kf_RX11_27 dX11_read_43 (rg_ hC T0.1) T0.2.1 rfl ?_
    have F12 := pgF_ hG c11
    obtain ⟨y13, ey13, h⟩ := lt_e h
    refine g_set C ey13 ?_
    have F14 : (E.2.2.2.2.2 y13 ∧ ty_ y13 = 5 ∧ ln_ y13 = 0) := by rw [ey13]; exact F12
    refine g_astore_n C (f := 2) (ls' := [(2, (2, y13)), (1, (0, q5.1)), (0, (2, x0))]) dX11_read_46 (by decide) rfl ?_
    refine g_aload_n C (f := 0) dX11_read_47 2 rfl ?_
    refine g_aload_n C (f := 0) dX11_read_48 2 rfl ?_
    obtain ⟨c15, h⟩ := ck_e h
    refine g_getf C (k := 5) (kd := 2) okX11 (by decide) kf_RX11_31 dX11_read_49 (rg_ hC T0.1) T0.2.1 rfl ?_
    have F16 := pgF_ hG c15
    obtain ⟨v17, ev17, h⟩ := lt_e h
    refine g_putf C (k := 4) (kd := 2) okX11 (by decide) kf_RX11_27 dX11_read_52 (rg_ hC T0.1) T0.2.1 rfl rfl nvR (Or.inl rfl) v17 ev17 ?_
    refine g_aload_n C (f := 0) dX11_read_55 2 rfl ?_
    refine g_aload_n C (f := 2) dX11_read_56 0 rfl ?_
    obtain ⟨v18, ev18, h⟩ := lt_e h
    refine g_putf C (k := 5) (kd := 2) okX11 (by decide) kf_RX11_31 dX11_read_57 (rg_ hC T0.1) T0.2.1 rfl rfl nvR (Or.inl rfl) v18 ev18 ?_
    refine g_aload_n C (f := 0) dX11_read_60 2 rfl ?_
    obtain ⟨c19, h⟩ := ck_e h
    refine g_getf C (k := 4) (kd := 2) okX11 (by decide) kf_RX11_27 dX11_read_61 (rg_ hC T0.1) T0.2.1 rfl ?_
    have F20 := pgF_ hG c19
    obtain ⟨q21, eq21, h⟩ := bd_e h
    refine g_cV C [] (cX5_findLive_ok l hC F20 eq21) okX5 F20.2.1 (rg_ hC F20.1) km_RX11_84 cv_X5_findLive rfl (by decide) rfl rfl (Nat.le_of_ble_eq_true rfl) dX11_read_64 ?_
    refine g_aload_n C (f := 0) dX11_read_67 2 rfl ?_
    have F22 := fX11_6 hC T0.1 T0.2.1
    refine g_getR C (k := 6) (o := 139) okX11 (by decide) kf_RX11_37 dX11_read_68 hC T0.1 T0.2.1 rfl rfl ?_
    refine g_aload_n C (f := 0) dX11_read_71 2 rfl ?_
    obtain ⟨c23, h⟩ := ck_e h
    refine g_getf C (k := 4) (kd := 2) okX11 (by decide) kf_RX11_27 dX11_read_72 (rg_ hC T0.1) T0.2.1 rfl ?_
    have F24 := pgF_ hG c23
    obtain ⟨q25, eq25, h⟩ := bd_e h
    refine g_cV C [(2, q21.2 x0 4)] (cX7_begin_ok l hC F22 F24 eq25) okX7 F22.2.1 (rg_ hC F22.1) km_RX11_65 cv_X7_begin rfl (by decide) rfl rfl (Nat.le_of_ble_eq_true rfl) dX11_read_75 ?_
    refine g_aload_n C (f := 0) dX11_read_78 2 rfl ?_
    have F26 := fX11_7 hC T0.1 T0.2.1
    refine g_getR C (k := 7) (o := 141) okX11 (by decide) kf_RX11_44 dX11_read_79 hC T0.1 T0.2.1 rfl rfl ?_
    obtain ⟨q27, eq27, h⟩ := bd_e h
    refine g_cV C [] (cX0_forgetDone_ok l hC F26 eq27) okX0 F26.2.1 (rg_ hC F26.1) km_RX11_87 cv_X0_forgetDone rfl (by decide) rfl rfl (Nat.le_of_ble_eq_true rfl) dX11_read_82 ?_
    refine g_aload_n C (f := 0) dX11_read_85 2 rfl ?_
    have F28 := fX11_7 hC T0.1 T0.2.1
    refine g_getR C (k := 7) (o := 141) okX11 (by decide) kf_RX11_44 dX11_read_86 hC T0.1 T0.2.1 rfl rfl ?_
    obtain ⟨q29, eq29, h⟩ := bd_e h
    refine g_cV C [] (cX0_forgetHeld_ok l hC F28 eq29) okX0 F28.2.1 (rg_ hC F28.1) km_RX11_90 cv_X0_forgetHeld rfl (by decide) rfl rfl (Nat.le_of_ble_eq_true rfl) dX11_read_89 ?_
    refine g_aload_n C (f := 0) dX11_read_92 2 rfl ?_
    obtain ⟨q30, eq30, h⟩ := bd_e h
    refine g_cV C [] (cX11_forgetAll_ok l hC hG T0 eq30) okX11 T0.2.1 (rg_ hC T0.1) km_RX11_93 cv_X11_forgetAll rfl (by decide) rfl rfl (Nat.le_of_ble_eq_true rfl) dX11_read_93 ?_
    refine g_iconst C (n := 0) dX11_read_96 (by decide) ?_
    cases h
    exact g_iret C dX11_read_97 hr hlk
  · replace h := if_f h c10
    refine g_iload_n C (f := 1) dX11_read_40 0 rfl ?_
    cases h
    exact g_iret C dX11_read_41 hr hlk
theorem dX11_reg_0 : decode cX11_reg 0 = .ok (.iload_n 1, 1) := by decide +kernel
theorem dX11_reg_1 : decode cX11_reg 1 = .ok (.invokestatic 96, 3) := by decide +kernel
theorem dX11_reg_4 : decode cX11_reg 4 = .ok (.ifCond .eq 14, 3) := by decide +kernel
theorem dX11_reg_7 : decode cX11_reg 7 = .ok (.aload_n 0, 1) := by decide +kernel
theorem dX11_reg_8 : decode cX11_reg 8 = .ok (.getfield 37, 3) := by decide +kernel
theorem dX11_reg_11 : decode cX11_reg 11 = .ok (.iload_n 1, 1) := by decide +kernel
theorem dX11_reg_12 : decode cX11_reg 12 = .ok (.invokevirtual 100, 3) := by decide +kernel
theorem dX11_reg_15 : decode cX11_reg 15 = .ok (.goto 4, 3) := by decide +kernel
theorem dX11_reg_18 : decode cX11_reg 18 = .ok (.iconst 0, 1) := by decide +kernel
theorem dX11_reg_19 : decode cX11_reg 19 = .ok (.ireturn, 1) := by decide +kernel
def fX11_reg (x0 x1 : Int) (v : V_) : Option (Int × V_) :=
  bd_ (fX11_isRegister x1 v) fun q1 =>
  if q1.1 = 0 then (
    some (0, q1.2))
  else (
    bd_ (fX7_register (x0 + 139) x1 q1.2) fun q4 =>
    some (q4.1, q4.2))
theorem cX11_reg_ok (l : Launch) {E : En_} {sz : Int} (hC : Cl_ E.2.2.2.2.2 sz) (hG : Pg_ E.2.2.2.2.2) {x0 x1 : Int} {v : V_} {out : Int × V_} (T0 : (E.2.2.2.2.2 x0 ∧ ty_ x0 = 11 ∧ ln_ x0 = 0)) (h : fX11_reg x0 x1 v = some out) : Met l yX11_reg [.code yX11_reg cX11_reg 2 (some FieldType.int)] (rm_ 1 21) (Pc_ E sz v [(2, x0), (0, x1)]) (Qc_ E sz 0 out.1 out.2) 0 0 (fun q => E.1 < q) := by
  refine met_G0 RX11 (by decide +kernel) rfl (Nat.le_of_ble_eq_true rfl) ?_
  intro p e s m args below meth c C hr hlk
  rw [fX11_reg] at h
  refine g_iload_n C (f := 1) dX11_reg_0 1 rfl ?_
  obtain ⟨q1, eq1, h⟩ := bd_e h
  refine g_cS C [(0, x1)] (cX11_isRegister_ok l hC eq1) km_RX11_96 cs_X11_isRegister rfl (by decide) rfl rfl (Nat.le_of_ble_eq_true rfl) dX11_reg_1 ?_
  refine g_if_eq C 18 dX11_reg_4 rfl (fun c2 => ?_) (fun c2 => ?_)
  · replace h := if_t h c2
    refine g_iconst C (n := 0) dX11_reg_18 (by decide) ?_
    cases h
    exact g_iret C dX11_reg_19 hr hlk
  · replace h := if_f h c2
    refine g_aload_n C (f := 0) dX11_reg_7 0 rfl ?_
    have F3 := fX11_6 hC T0.1 T0.2.1
    refine g_getR C (k := 6) (o := 139) okX11 (by decide) kf_RX11_37 dX11_reg_8 hC T0.1 T0.2.1 rfl rfl ?_
    refine g_iload_n C (f := 1) dX11_reg_11 1 rfl ?_
    obtain ⟨q4, eq4, h⟩ := bd_e h
    refine g_cV C [(0, x1)] (cX7_register_ok l hC F3 eq4) okX7 F3.2.1 (rg_ hC F3.1) km_RX11_100 cv_X7_register rfl (by decide) rfl rfl (Nat.le_of_ble_eq_true rfl) dX11_reg_12 ?_
    refine g_goto C 19 dX11_reg_15 rfl ?_
    cases h
    exact g_iret C dX11_reg_19 hr hlk
theorem dX11_rename_0 : decode cX11_rename 0 = .ok (.aload_n 0, 1) := by decide +kernel
theorem dX11_rename_1 : decode cX11_rename 1 = .ok (.getfield 37, 3) := by decide +kernel
theorem dX11_rename_4 : decode cX11_rename 4 = .ok (.invokevirtual 208, 3) := by decide +kernel
theorem dX11_rename_7 : decode cX11_rename 7 = .ok (.iload_n 1, 1) := by decide +kernel
theorem dX11_rename_8 : decode cX11_rename 8 = .ok (.if_icmp .ne 5, 3) := by decide +kernel
theorem dX11_rename_11 : decode cX11_rename 11 = .ok (.iconst 0, 1) := by decide +kernel
theorem dX11_rename_12 : decode cX11_rename 12 = .ok (.ireturn, 1) := by decide +kernel
theorem dX11_rename_13 : decode cX11_rename 13 = .ok (.aload_n 0, 1) := by decide +kernel
theorem dX11_rename_14 : decode cX11_rename 14 = .ok (.getfield 44, 3) := by decide +kernel
theorem dX11_rename_17 : decode cX11_rename 17 = .ok (.aload_n 0, 1) := by decide +kernel
theorem dX11_rename_18 : decode cX11_rename 18 = .ok (.getfield 37, 3) := by decide +kernel
theorem dX11_rename_21 : decode cX11_rename 21 = .ok (.invokevirtual 164, 3) := by decide +kernel
theorem dX11_rename_24 : decode cX11_rename 24 = .ok (.aload_n 0, 1) := by decide +kernel
theorem dX11_rename_25 : decode cX11_rename 25 = .ok (.getfield 37, 3) := by decide +kernel
theorem dX11_rename_28 : decode cX11_rename 28 = .ok (.iload_n 1, 1) := by decide +kernel
theorem dX11_rename_29 : decode cX11_rename 29 = .ok (.invokevirtual 212, 3) := by decide +kernel
theorem dX11_rename_32 : decode cX11_rename 32 = .ok (.aload_n 0, 1) := by decide +kernel
theorem dX11_rename_33 : decode cX11_rename 33 = .ok (.invokevirtual 93, 3) := by decide +kernel
theorem dX11_rename_36 : decode cX11_rename 36 = .ok (.iconst 1, 1) := by decide +kernel
theorem dX11_rename_37 : decode cX11_rename 37 = .ok (.ireturn, 1) := by decide +kernel
def fX11_rename (x0 x1 : Int) (v : V_) : Option (Int × V_) :=
  bd_ (fX7_renames (x0 + 139) v) fun q2 =>
  if q2.1 = x1 then (
    some (0, q2.2))
  else (
    bd_ (fX0_note (x0 + 141) (x0 + 139) q2.2) fun q6 =>
    bd_ (fX7_setRenames (x0 + 139) x1 q6.2) fun q8 =>
    bd_ (fX11_forgetAll x0 q8.2) fun q9 =>
    some (1, q9.2))
theorem cX11_rename_ok (l : Launch) {E : En_} {sz : Int} (hC : Cl_ E.2.2.2.2.2 sz) (hG : Pg_ E.2.2.2.2.2) {x0 x1 : Int} {v : V_} {out : Int × V_} (T0 : (E.2.2.2.2.2 x0 ∧ ty_ x0 = 11 ∧ ln_ x0 = 0)) (h : fX11_rename x0 x1 v = some out) : Met l yX11_rename [.code yX11_rename cX11_rename 2 (some FieldType.boolean)] (rm_ 2 47) (Pc_ E sz v [(2, x0), (0, x1)]) (Qc_ E sz 0 out.1 out.2) 0 0 (fun q => E.1 < q) := by
  refine met_G0 RX11 (by decide +kernel) rfl (Nat.le_of_ble_eq_true rfl) ?_
  intro p e s m args below meth c C hr hlk
  rw [fX11_rename] at h
  refine g_aload_n C (f := 0) dX11_rename_0 0 rfl ?_
  have F1 := fX11_6 hC T0.1 T0.2.1
  refine g_getR C (k := 6) (o := 139) okX11 (by decide) kf_RX11_37 dX11_rename_1 hC T0.1 T0.2.1 rfl rfl ?_
  obtain ⟨q2, eq2, h⟩ := bd_e h
  refine g_cV C [] (cX7_renames_ok l hC F1 eq2) okX7 F1.2.1 (rg_ hC F1.1) km_RX11_208 cv_X7_renames rfl (by decide) rfl rfl (Nat.le_of_ble_eq_true rfl) dX11_rename_4 ?_
  refine g_iload_n C (f := 1) dX11_rename_7 1 rfl ?_
  refine g_icmp_ne C 13 dX11_rename_8 rfl (fun c3 => ?_) (fun c3 => ?_)
  · replace h := if_f h c3
    refine g_aload_n C (f := 0) dX11_rename_13 0 rfl ?_
    have F4 := fX11_7 hC T0.1 T0.2.1
    refine g_getR C (k := 7) (o := 141) okX11 (by decide) kf_RX11_44 dX11_rename_14 hC T0.1 T0.2.1 rfl rfl ?_
    refine g_aload_n C (f := 0) dX11_rename_17 0 rfl ?_
    have F5 := fX11_6 hC T0.1 T0.2.1
    refine g_getR C (k := 6) (o := 139) okX11 (by decide) kf_RX11_37 dX11_rename_18 hC T0.1 T0.2.1 rfl rfl ?_
    obtain ⟨q6, eq6, h⟩ := bd_e h
    refine g_cV C [(2, x0 + 139)] (cX0_note_ok l hC F4 F5 eq6) okX0 F4.2.1 (rg_ hC F4.1) km_RX11_164 cv_X0_note rfl (by decide) rfl rfl (Nat.le_of_ble_eq_true rfl) dX11_rename_21 ?_
    refine g_aload_n C (f := 0) dX11_rename_24 0 rfl ?_
    have F7 := fX11_6 hC T0.1 T0.2.1
    refine g_getR C (k := 6) (o := 139) okX11 (by decide) kf_RX11_37 dX11_rename_25 hC T0.1 T0.2.1 rfl rfl ?_
    refine g_iload_n C (f := 1) dX11_rename_28 1 rfl ?_
    obtain ⟨q8, eq8, h⟩ := bd_e h
    refine g_cV C [(0, x1)] (cX7_setRenames_ok l hC F7 eq8) okX7 F7.2.1 (rg_ hC F7.1) km_RX11_212 cv_X7_setRenames rfl (by decide) rfl rfl (Nat.le_of_ble_eq_true rfl) dX11_rename_29 ?_
    refine g_aload_n C (f := 0) dX11_rename_32 0 rfl ?_
    obtain ⟨q9, eq9, h⟩ := bd_e h
    refine g_cV C [] (cX11_forgetAll_ok l hC hG T0 eq9) okX11 T0.2.1 (rg_ hC T0.1) km_RX11_93 cv_X11_forgetAll rfl (by decide) rfl rfl (Nat.le_of_ble_eq_true rfl) dX11_rename_33 ?_
    refine g_iconst C (n := 1) dX11_rename_36 (by decide) ?_
    cases h
    exact g_zret C dX11_rename_37 hr hlk (Or.inr rfl)
  · replace h := if_t h c3
    refine g_iconst C (n := 0) dX11_rename_11 (by decide) ?_
    cases h
    exact g_zret C dX11_rename_12 hr hlk (Or.inl rfl)
theorem dX11_restore_0 : decode cX11_restore 0 = .ok (.iload_n 1, 1) := by decide +kernel
theorem dX11_restore_1 : decode cX11_restore 1 = .ok (.invokestatic 345, 3) := by decide +kernel
theorem dX11_restore_4 : decode cX11_restore 4 = .ok (.ifCond .eq 14, 3) := by decide +kernel
theorem dX11_restore_7 : decode cX11_restore 7 = .ok (.aload_n 0, 1) := by decide +kernel
theorem dX11_restore_8 : decode cX11_restore 8 = .ok (.getfield 44, 3) := by decide +kernel
theorem dX11_restore_11 : decode cX11_restore 11 = .ok (.iload_n 1, 1) := by decide +kernel
theorem dX11_restore_12 : decode cX11_restore 12 = .ok (.invokevirtual 352, 3) := by decide +kernel
theorem dX11_restore_15 : decode cX11_restore 15 = .ok (.ifCond .ne 5, 3) := by decide +kernel
theorem dX11_restore_18 : decode cX11_restore 18 = .ok (.iconst 0, 1) := by decide +kernel
theorem dX11_restore_19 : decode cX11_restore 19 = .ok (.ireturn, 1) := by decide +kernel
theorem dX11_restore_20 : decode cX11_restore 20 = .ok (.aload_n 0, 1) := by decide +kernel
theorem dX11_restore_21 : decode cX11_restore 21 = .ok (.getfield 44, 3) := by decide +kernel
theorem dX11_restore_24 : decode cX11_restore 24 = .ok (.iload_n 1, 1) := by decide +kernel
theorem dX11_restore_25 : decode cX11_restore 25 = .ok (.aload_n 0, 1) := by decide +kernel
theorem dX11_restore_26 : decode cX11_restore 26 = .ok (.getfield 37, 3) := by decide +kernel
theorem dX11_restore_29 : decode cX11_restore 29 = .ok (.invokevirtual 355, 3) := by decide +kernel
theorem dX11_restore_32 : decode cX11_restore 32 = .ok (.aload_n 0, 1) := by decide +kernel
theorem dX11_restore_33 : decode cX11_restore 33 = .ok (.getfield 44, 3) := by decide +kernel
theorem dX11_restore_36 : decode cX11_restore 36 = .ok (.invokevirtual 87, 3) := by decide +kernel
theorem dX11_restore_39 : decode cX11_restore 39 = .ok (.aload_n 0, 1) := by decide +kernel
theorem dX11_restore_40 : decode cX11_restore 40 = .ok (.invokevirtual 93, 3) := by decide +kernel
theorem dX11_restore_43 : decode cX11_restore 43 = .ok (.iconst 1, 1) := by decide +kernel
theorem dX11_restore_44 : decode cX11_restore 44 = .ok (.ireturn, 1) := by decide +kernel
def fX11_restore (x0 x1 : Int) (v : V_) : Option (Int × V_) :=
  bd_ (fX11_isSlot x1 v) fun q1 =>
  if q1.1 = 0 then (
    some (0, q1.2))
  else (
    bd_ (fX0_holds (x0 + 141) x1 q1.2) fun q4 =>
    if q4.1 = 0 then (
      some (0, q4.2))
    else (
      bd_ (fX0_bring (x0 + 141) x1 (x0 + 139) q4.2) fun q8 =>
      bd_ (fX0_forgetDone (x0 + 141) q8.2) fun q10 =>
      bd_ (fX11_forgetAll x0 q10.2) fun q11 =>
      some (1, q11.2)))
theorem cX11_restore_ok (l : Launch) {E : En_} {sz : Int} (hC : Cl_ E.2.2.2.2.2 sz) (hG : Pg_ E.2.2.2.2.2) {x0 x1 : Int} {v : V_} {out : Int × V_} (T0 : (E.2.2.2.2.2 x0 ∧ ty_ x0 = 11 ∧ ln_ x0 = 0)) (h : fX11_restore x0 x1 v = some out) : Met l yX11_restore [.code yX11_restore cX11_restore 2 (some FieldType.boolean)] (rm_ 2 48) (Pc_ E sz v [(2, x0), (0, x1)]) (Qc_ E sz 0 out.1 out.2) 0 0 (fun q => E.1 < q) := by
  refine met_G0 RX11 (by decide +kernel) rfl (Nat.le_of_ble_eq_true rfl) ?_
  intro p e s m args below meth c C hr hlk
  rw [fX11_restore] at h
  refine g_iload_n C (f := 1) dX11_restore_0 1 rfl ?_
  obtain ⟨q1, eq1, h⟩ := bd_e h
  refine g_cS C [(0, x1)] (cX11_isSlot_ok l hC eq1) km_RX11_345 cs_X11_isSlot rfl (by decide) rfl rfl (Nat.le_of_ble_eq_true rfl) dX11_restore_1 ?_
  refine g_if_eq C 18 dX11_restore_4 rfl (fun c2 => ?_) (fun c2 => ?_)
  · replace h := if_t h c2
    refine g_iconst C (n := 0) dX11_restore_18 (by decide) ?_
    cases h
    exact g_zret C dX11_restore_19 hr hlk (Or.inl rfl)
  · replace h := if_f h c2
    refine g_aload_n C (f := 0) dX11_restore_7 0 rfl ?_
    have F3 := fX11_7 hC T0.1 T0.2.1
    refine g_getR C (k := 7) (o := 141) okX11 (by decide) kf_RX11_44 dX11_restore_8 hC T0.1 T0.2.1 rfl rfl ?_
    refine g_iload_n C (f := 1) dX11_restore_11 1 rfl ?_
    obtain ⟨q4, eq4, h⟩ := bd_e h
    refine g_cV C [(0, x1)] (cX0_holds_ok l hC F3 eq4) okX0 F3.2.1 (rg_ hC F3.1) km_RX11_352 cv_X0_holds rfl (by decide) rfl rfl (Nat.le_of_ble_eq_true rfl) dX11_restore_12 ?_
    refine g_if_ne C 20 dX11_restore_15 rfl (fun c5 => ?_) (fun c5 => ?_)
    · replace h := if_f h c5
      refine g_aload_n C (f := 0) dX11_restore_20 0 rfl ?_
      have F6 := fX11_7 hC T0.1 T0.2.1
      refine g_getR C (k := 7) (o := 141) okX11 (by decide) kf_RX11_44 dX11_restore_21 hC T0.1 T0.2.1 rfl rfl ?_
      refine g_iload_n C (f := 1) dX11_restore_24 1 rfl ?_
      refine g_aload_n C (f := 0) dX11_restore_25 0 rfl ?_
      have F7 := fX11_6 hC T0.1 T0.2.1
      refine g_getR C (k := 6) (o := 139) okX11 (by decide) kf_RX11_37 dX11_restore_26 hC T0.1 T0.2.1 rfl rfl ?_
      obtain ⟨q8, eq8, h⟩ := bd_e h
      refine g_cV C [(0, x1), (2, x0 + 139)] (cX0_bring_ok l hC F6 F7 eq8) okX0 F6.2.1 (rg_ hC F6.1) km_RX11_355 cv_X0_bring rfl (by decide) rfl rfl (Nat.le_of_ble_eq_true rfl) dX11_restore_29 ?_
      refine g_aload_n C (f := 0) dX11_restore_32 0 rfl ?_
      have F9 := fX11_7 hC T0.1 T0.2.1
      refine g_getR C (k := 7) (o := 141) okX11 (by decide) kf_RX11_44 dX11_restore_33 hC T0.1 T0.2.1 rfl rfl ?_
      obtain ⟨q10, eq10, h⟩ := bd_e h
      refine g_cV C [] (cX0_forgetDone_ok l hC F9 eq10) okX0 F9.2.1 (rg_ hC F9.1) km_RX11_87 cv_X0_forgetDone rfl (by decide) rfl rfl (Nat.le_of_ble_eq_true rfl) dX11_restore_36 ?_
      refine g_aload_n C (f := 0) dX11_restore_39 0 rfl ?_
      obtain ⟨q11, eq11, h⟩ := bd_e h
      refine g_cV C [] (cX11_forgetAll_ok l hC hG T0 eq11) okX11 T0.2.1 (rg_ hC T0.1) km_RX11_93 cv_X11_forgetAll rfl (by decide) rfl rfl (Nat.le_of_ble_eq_true rfl) dX11_restore_40 ?_
      refine g_iconst C (n := 1) dX11_restore_43 (by decide) ?_
      cases h
      exact g_zret C dX11_restore_44 hr hlk (Or.inr rfl)
    · replace h := if_t h c5
      refine g_iconst C (n := 0) dX11_restore_18 (by decide) ?_
      cases h
      exact g_zret C dX11_restore_19 hr hlk (Or.inl rfl)
theorem dX11_run_0 : decode cX11_run 0 = .ok (.aload_n 0, 1) := by decide +kernel
theorem dX11_run_1 : decode cX11_run 1 = .ok (.invokevirtual 178, 3) := by decide +kernel
theorem dX11_run_4 : decode cX11_run 4 = .ok (.astore_n 1, 1) := by decide +kernel
theorem dX11_run_5 : decode cX11_run 5 = .ok (.aload_n 1, 1) := by decide +kernel
theorem dX11_run_6 : decode cX11_run 6 = .ok (.getfield 182, 3) := by decide +kernel
theorem dX11_run_9 : decode cX11_run 9 = .ok (.istore_n 2, 1) := by decide +kernel
theorem dX11_run_10 : decode cX11_run 10 = .ok (.aload_n 0, 1) := by decide +kernel
theorem dX11_run_11 : decode cX11_run 11 = .ok (.getfield 44, 3) := by decide +kernel
theorem dX11_run_14 : decode cX11_run 14 = .ok (.aload_n 0, 1) := by decide +kernel
theorem dX11_run_15 : decode cX11_run 15 = .ok (.getfield 37, 3) := by decide +kernel
theorem dX11_run_18 : decode cX11_run 18 = .ok (.invokevirtual 164, 3) := by decide +kernel
theorem dX11_run_21 : decode cX11_run 21 = .ok (.iload_n 2, 1) := by decide +kernel
theorem dX11_run_22 : decode cX11_run 22 = .ok (.ifCond .ne 18, 3) := by decide +kernel
theorem dX11_run_25 : decode cX11_run 25 = .ok (.aload_n 0, 1) := by decide +kernel
theorem dX11_run_26 : decode cX11_run 26 = .ok (.getfield 37, 3) := by decide +kernel
theorem dX11_run_29 : decode cX11_run 29 = .ok (.aload_n 1, 1) := by decide +kernel
theorem dX11_run_30 : decode cX11_run 30 = .ok (.getfield 185, 3) := by decide +kernel
theorem dX11_run_33 : decode cX11_run 33 = .ok (.aload_n 1, 1) := by decide +kernel
theorem dX11_run_34 : decode cX11_run 34 = .ok (.getfield 188, 3) := by decide +kernel
theorem dX11_run_37 : decode cX11_run 37 = .ok (.invokevirtual 191, 3) := by decide +kernel
theorem dX11_run_40 : decode cX11_run 40 = .ok (.aload_n 0, 1) := by decide +kernel
theorem dX11_run_41 : decode cX11_run 41 = .ok (.getfield 37, 3) := by decide +kernel
theorem dX11_run_44 : decode cX11_run 44 = .ok (.aload_n 1, 1) := by decide +kernel
theorem dX11_run_45 : decode cX11_run 45 = .ok (.getfield 195, 3) := by decide +kernel
theorem dX11_run_48 : decode cX11_run 48 = .ok (.aload_n 1, 1) := by decide +kernel
theorem dX11_run_49 : decode cX11_run 49 = .ok (.getfield 197, 3) := by decide +kernel
theorem dX11_run_52 : decode cX11_run 52 = .ok (.invokevirtual 199, 3) := by decide +kernel
theorem dX11_run_55 : decode cX11_run 55 = .ok (.aload_n 0, 1) := by decide +kernel
theorem dX11_run_56 : decode cX11_run 56 = .ok (.invokevirtual 93, 3) := by decide +kernel
theorem dX11_run_59 : decode cX11_run 59 = .ok (.iload_n 2, 1) := by decide +kernel
theorem dX11_run_60 : decode cX11_run 60 = .ok (.ireturn, 1) := by decide +kernel
def fX11_run_40 (x0 x1 x2 : Int) (v : V_) : Option (Int × V_) :=
  bd_ (fX7_addCounts (x0 + 139) (x1 + 3) (x1 + 4) v) fun q11 =>
  bd_ (fX11_forgetAll x0 q11.2) fun q12 =>
  some (x2, q12.2)
def fX11_run (x0 : Int) (v : V_) : Option (Int × V_) :=
  bd_ (fX11_knownSlow x0 v) fun q1 =>
  lt_ (q1.2 q1.1 4) fun y3 =>
  bd_ (fX0_note (x0 + 141) (x0 + 139) q1.2) fun q6 =>
  if y3 = 0 then (
    bd_ (fX7_goOnFrom (x0 + 139) (q1.1 + 1) (q1.1 + 2) q6.2) fun q16 =>
    fX11_run_40 x0 q1.1 y3 q16.2)
  else (
    fX11_run_40 x0 q1.1 y3 q6.2)
section
variable {E : En_} {p : Program} {l : Launch} {e : Env} {s : State} {m : MethodId} {args : Array Value} {below : List Frame} {meth : Method} {c : Code} {sz : Int}
theorem tX11_run_40 (C : MC_ E p s m c cX11_run 3 RX11) (hr : meth.sig.returnType = (some FieldType.int)) (hlk : meth.locks = false) (hC : Cl_ E.2.2.2.2.2 sz) (hG : Pg_ E.2.2.2.2.2) {out : Int × V_} (x0 x1 x2 : Int) (v : V_) (T0 : (E.2.2.2.2.2 x0 ∧ ty_ x0 = 11 ∧ ln_ x0 = 0)) (T1 : (E.2.2.2.2.2 x1 ∧ ty_ x1 = 6 ∧ ln_ x1 = 0)) (h : fX11_run_40 x0 x1 x2 v = some out) : G_ E p l e (rm_ 5 113) s m args below meth c 3 sz (Q_ E below args s sz sz 0 out.1 out.2) 40 [(0, (2, x0)), (1, (2, x1)), (2, (0, x2))] [] v sz := by
  rw [fX11_run_40] at h
  refine g_aload_n C (f := 0) dX11_run_40 0 rfl ?_
  have F8 := fX11_6 hC T0.1 T0.2.1
  refine g_getR C (k := 6) (o := 139) okX11 (by decide) kf_RX11_37 dX11_run_41 hC T0.1 T0.2.1 rfl rfl ?_
  refine g_aload_n C (f := 1) dX11_run_44 1 rfl ?_
  have F9 := fX6_2 hC T1.1 T1.2.1
  refine g_getR C (k := 2) (o := 3) okX6 (by decide) kf_RX11_195 dX11_run_45 hC T1.1 T1.2.1 rfl rfl ?_
  refine g_aload_n C (f := 1) dX11_run_48 1 rfl ?_
  have F10 := fX6_3 hC T1.1 T1.2.1
  refine g_getR C (k := 3) (o := 4) okX6 (by decide) kf_RX11_197 dX11_run_49 hC T1.1 T1.2.1 rfl rfl ?_
  obtain ⟨q11, eq11, h⟩ := bd_e h
  refine g_cV C [(2, x1 + 3), (2, x1 + 4)] (cX7_addCounts_ok l hC F8 F9 F10 eq11) okX7 F8.2.1 (rg_ hC F8.1) km_RX11_199 cv_X7_addCounts rfl (by decide) rfl rfl (Nat.le_of_ble_eq_true rfl) dX11_run_52 ?_
  refine g_aload_n C (f := 0) dX11_run_55 0 rfl ?_
  obtain ⟨q12, eq12, h⟩ := bd_e h
  refine g_cV C [] (cX11_forgetAll_ok l hC hG T0 eq12) okX11 T0.2.1 (rg_ hC T0.1) km_RX11_93 cv_X11_forgetAll rfl (by decide) rfl rfl (Nat.le_of_ble_eq_true rfl) dX11_run_56 ?_
  refine g_iload_n C (f := 2) dX11_run_59 2 rfl ?_
  cases h
  exact g_iret C dX11_run_60 hr hlk
end
theorem cX11_run_ok (l : Launch) {E : En_} {sz : Int} (hC : Cl_ E.2.2.2.2.2 sz) (hG : Pg_ E.2.2.2.2.2) {x0 : Int} {v : V_} {out : Int × V_} (T0 : (E.2.2.2.2.2 x0 ∧ ty_ x0 = 11 ∧ ln_ x0 = 0)) (h : fX11_run x0 v = some out) : Met l yX11_run [.code yX11_run cX11_run 3 (some FieldType.int)] (rm_ 5 113) (Pc_ E sz v [(2, x0)]) (Qc_ E sz 0 out.1 out.2) 0 0 (fun q => E.1 < q) := by
  refine met_G0 RX11 (by decide +kernel) rfl (Nat.le_of_ble_eq_true rfl) ?_
  intro p e s m args below meth c C hr hlk
  rw [fX11_run] at h
  refine g_aload_n C (f := 0) dX11_run_0 0 rfl ?_
  obtain ⟨q1, eq1, h⟩ := bd_e h
  refine g_cV C [] (cX11_knownSlow_ok l hC hG T0 eq1) okX11 T0.2.1 (rg_ hC T0.1) km_RX11_178 cv_X11_knownSlow rfl (by decide) rfl rfl (Nat.le_of_ble_eq_true rfl) dX11_run_1 ?_
  have F2 := rX11_knownSlow_ok hC hG T0 eq1
  refine g_astore_n C (f := 1) (ls' := [(1, (2, q1.1)), (0, (2, x0))]) dX11_run_4 (by decide) rfl ?_
  refine g_aload_n C (f := 1) dX11_run_5 0 rfl ?_
  refine g_getf C (k := 4) (kd := 0) okX6 (by decide) kf_RX11_182 dX11_run_6 (rg_ hC F2.1) F2.2.1 rfl ?_
  obtain ⟨y3, ey3, h⟩ := lt_e h
  refine g_set C ey3 ?_
  refine g_istore_n C (f := 2) (ls' := [(2, (0, y3)), (1, (2, q1.1)), (0, (2, x0))]) dX11_run_9 (by decide) rfl ?_
  refine g_aload_n C (f := 0) dX11_run_10 2 rfl ?_
  have F4 := fX11_7 hC T0.1 T0.2.1
  refine g_getR C (k := 7) (o := 141) okX11 (by decide) kf_RX11_44 dX11_run_11 hC T0.1 T0.2.1 rfl rfl ?_
  refine g_aload_n C (f := 0) dX11_run_14 2 rfl ?_
  have F5 := fX11_6 hC T0.1 T0.2.1
  refine g_getR C (k := 6) (o := 139) okX11 (by decide) kf_RX11_37 dX11_run_15 hC T0.1 T0.2.1 rfl rfl ?_
  obtain ⟨q6, eq6, h⟩ := bd_e h
  refine g_cV C [(2, x0 + 139)] (cX0_note_ok l hC F4 F5 eq6) okX0 F4.2.1 (rg_ hC F4.1) km_RX11_164 cv_X0_note rfl (by decide) rfl rfl (Nat.le_of_ble_eq_true rfl) dX11_run_18 ?_
  refine g_iload_n C (f := 2) dX11_run_21 0 rfl ?_
  refine g_if_ne C 40 dX11_run_22 rfl (fun c7 => ?_) (fun c7 => ?_)
  · replace h := if_f h c7
    refine g_sub [2, 1, 0] rfl rfl ?_
    exact tX11_run_40 C hr hlk hC hG _ _ _ _ T0 F2 h
  · replace h := if_t h c7
    refine g_aload_n C (f := 0) dX11_run_25 2 rfl ?_
    have F13 := fX11_6 hC T0.1 T0.2.1
    refine g_getR C (k := 6) (o := 139) okX11 (by decide) kf_RX11_37 dX11_run_26 hC T0.1 T0.2.1 rfl rfl ?_
    refine g_aload_n C (f := 1) dX11_run_29 1 rfl ?_
    have F14 := fX6_0 hC F2.1 F2.2.1
    refine g_getR C (k := 0) (o := 1) okX6 (by decide) kf_RX11_185 dX11_run_30 hC F2.1 F2.2.1 rfl rfl ?_
    refine g_aload_n C (f := 1) dX11_run_33 1 rfl ?_
    have F15 := fX6_1 hC F2.1 F2.2.1
    refine g_getR C (k := 1) (o := 2) okX6 (by decide) kf_RX11_188 dX11_run_34 hC F2.1 F2.2.1 rfl rfl ?_
    obtain ⟨q16, eq16, h⟩ := bd_e h
    refine g_cV C [(2, q1.1 + 1), (2, q1.1 + 2)] (cX7_goOnFrom_ok l hC F13 F14 F15 eq16) okX7 F13.2.1 (rg_ hC F13.1) km_RX11_191 cv_X7_goOnFrom rfl (by decide) rfl rfl (Nat.le_of_ble_eq_true rfl) dX11_run_37 ?_
    refine g_sub [2, 1, 0] rfl rfl ?_
    exact tX11_run_40 C hr hlk hC hG _ _ _ _ T0 F2 h
theorem dX11_saved_0 : decode cX11_saved 0 = .ok (.iload_n 1, 1) := by decide +kernel
theorem dX11_saved_1 : decode cX11_saved 1 = .ok (.invokestatic 110, 3) := by decide +kernel
theorem dX11_saved_4 : decode cX11_saved 4 = .ok (.ifCond .eq 18, 3) := by decide +kernel
theorem dX11_saved_7 : decode cX11_saved 7 = .ok (.aload_n 0, 1) := by decide +kernel
theorem dX11_saved_8 : decode cX11_saved 8 = .ok (.invokevirtual 145, 3) := by decide +kernel
theorem dX11_saved_11 : decode cX11_saved 11 = .ok (.iload_n 1, 1) := by decide +kernel
theorem dX11_saved_12 : decode cX11_saved 12 = .ok (.aload_n 0, 1) := by decide +kernel
theorem dX11_saved_13 : decode cX11_saved 13 = .ok (.getfield 37, 3) := by decide +kernel
theorem dX11_saved_16 : decode cX11_saved 16 = .ok (.invokevirtual 341, 3) := by decide +kernel
theorem dX11_saved_19 : decode cX11_saved 19 = .ok (.goto 4, 3) := by decide +kernel
theorem dX11_saved_22 : decode cX11_saved 22 = .ok (.iconst (-1), 1) := by decide +kernel
theorem dX11_saved_23 : decode cX11_saved 23 = .ok (.ireturn, 1) := by decide +kernel
def fX11_saved (x0 x1 : Int) (v : V_) : Option (Int × V_) :=
  bd_ (fX11_isKind x1 v) fun q1 =>
  if q1.1 = 0 then (
    some ((-1), q1.2))
  else (
    bd_ (fX11_knownPlan x0 q1.2) fun q3 =>
    bd_ (fX4_savedBy q3.1 x1 (x0 + 139) q3.2) fun q6 =>
    some (q6.1, q6.2))
theorem cX11_saved_ok (l : Launch) {E : En_} {sz : Int} (hC : Cl_ E.2.2.2.2.2 sz) (hG : Pg_ E.2.2.2.2.2) {x0 x1 : Int} {v : V_} {out : Int × V_} (T0 : (E.2.2.2.2.2 x0 ∧ ty_ x0 = 11 ∧ ln_ x0 = 0)) (h : fX11_saved x0 x1 v = some out) : Met l yX11_saved [.code yX11_saved cX11_saved 2 (some FieldType.int)] (rm_ 6 143) (Pc_ E sz v [(2, x0), (0, x1)]) (Qc_ E sz 0 out.1 out.2) 0 0 (fun q => E.1 < q) := by
  refine met_G0 RX11 (by decide +kernel) rfl (Nat.le_of_ble_eq_true rfl) ?_
  intro p e s m args below meth c C hr hlk
  rw [fX11_saved] at h
  refine g_iload_n C (f := 1) dX11_saved_0 1 rfl ?_
  obtain ⟨q1, eq1, h⟩ := bd_e h
  refine g_cS C [(0, x1)] (cX11_isKind_ok l hC eq1) km_RX11_110 cs_X11_isKind rfl (by decide) rfl rfl (Nat.le_of_ble_eq_true rfl) dX11_saved_1 ?_
  refine g_if_eq C 22 dX11_saved_4 rfl (fun c2 => ?_) (fun c2 => ?_)
  · replace h := if_t h c2
    refine g_iconst C (n := (-1)) dX11_saved_22 (by decide) ?_
    cases h
    exact g_iret C dX11_saved_23 hr hlk
  · replace h := if_f h c2
    refine g_aload_n C (f := 0) dX11_saved_7 0 rfl ?_
    obtain ⟨q3, eq3, h⟩ := bd_e h
    refine g_cV C [] (cX11_knownPlan_ok l hC hG T0 eq3) okX11 T0.2.1 (rg_ hC T0.1) km_RX11_145 cv_X11_knownPlan rfl (by decide) rfl rfl (Nat.le_of_ble_eq_true rfl) dX11_saved_8 ?_
    have F4 := rX11_knownPlan_ok hC hG T0 eq3
    refine g_iload_n C (f := 1) dX11_saved_11 1 rfl ?_
    refine g_aload_n C (f := 0) dX11_saved_12 0 rfl ?_
    have F5 := fX11_6 hC T0.1 T0.2.1
    refine g_getR C (k := 6) (o := 139) okX11 (by decide) kf_RX11_37 dX11_saved_13 hC T0.1 T0.2.1 rfl rfl ?_
    obtain ⟨q6, eq6, h⟩ := bd_e h
    refine g_cV C [(0, x1), (2, x0 + 139)] (cX4_savedBy_ok l hC F4 F5 eq6) okX4 F4.2.1 (rg_ hC F4.1) km_RX11_341 cv_X4_savedBy rfl (by decide) rfl rfl (Nat.le_of_ble_eq_true rfl) dX11_saved_16 ?_
    refine g_goto C 23 dX11_saved_19 rfl ?_
    cases h
    exact g_iret C dX11_saved_23 hr hlk
theorem dX11_set_0 : decode cX11_set 0 = .ok (.iload_n 1, 1) := by decide +kernel
theorem dX11_set_1 : decode cX11_set 1 = .ok (.invokestatic 96, 3) := by decide +kernel
theorem dX11_set_4 : decode cX11_set 4 = .ok (.ifCond .eq 15, 3) := by decide +kernel
theorem dX11_set_7 : decode cX11_set 7 = .ok (.aload_n 0, 1) := by decide +kernel
theorem dX11_set_8 : decode cX11_set 8 = .ok (.getfield 37, 3) := by decide +kernel
theorem dX11_set_11 : decode cX11_set 11 = .ok (.iload_n 1, 1) := by decide +kernel
theorem dX11_set_12 : decode cX11_set 12 = .ok (.invokevirtual 100, 3) := by decide +kernel
theorem dX11_set_15 : decode cX11_set 15 = .ok (.iload_n 2, 1) := by decide +kernel
theorem dX11_set_16 : decode cX11_set 16 = .ok (.if_icmp .ne 5, 3) := by decide +kernel
theorem dX11_set_19 : decode cX11_set 19 = .ok (.iconst 0, 1) := by decide +kernel
theorem dX11_set_20 : decode cX11_set 20 = .ok (.ireturn, 1) := by decide +kernel
theorem dX11_set_21 : decode cX11_set 21 = .ok (.aload_n 0, 1) := by decide +kernel
theorem dX11_set_22 : decode cX11_set 22 = .ok (.getfield 44, 3) := by decide +kernel
theorem dX11_set_25 : decode cX11_set 25 = .ok (.aload_n 0, 1) := by decide +kernel
theorem dX11_set_26 : decode cX11_set 26 = .ok (.getfield 37, 3) := by decide +kernel
theorem dX11_set_29 : decode cX11_set 29 = .ok (.invokevirtual 164, 3) := by decide +kernel
theorem dX11_set_32 : decode cX11_set 32 = .ok (.aload_n 0, 1) := by decide +kernel
theorem dX11_set_33 : decode cX11_set 33 = .ok (.getfield 37, 3) := by decide +kernel
theorem dX11_set_36 : decode cX11_set 36 = .ok (.iload_n 1, 1) := by decide +kernel
theorem dX11_set_37 : decode cX11_set 37 = .ok (.iload_n 2, 1) := by decide +kernel
theorem dX11_set_38 : decode cX11_set 38 = .ok (.invokevirtual 168, 3) := by decide +kernel
theorem dX11_set_41 : decode cX11_set 41 = .ok (.aload_n 0, 1) := by decide +kernel
theorem dX11_set_42 : decode cX11_set 42 = .ok (.invokevirtual 172, 3) := by decide +kernel
theorem dX11_set_45 : decode cX11_set 45 = .ok (.iconst 1, 1) := by decide +kernel
theorem dX11_set_46 : decode cX11_set 46 = .ok (.ireturn, 1) := by decide +kernel
def fX11_set (x0 x1 x2 : Int) (v : V_) : Option (Int × V_) :=
  bd_ (fX11_isRegister x1 v) fun q1 =>
  if q1.1 = 0 then (
    some (0, q1.2))
  else (
    bd_ (fX7_register (x0 + 139) x1 q1.2) fun q4 =>
    if q4.1 = x2 then (
      some (0, q4.2))
    else (
      bd_ (fX0_note (x0 + 141) (x0 + 139) q4.2) fun q8 =>
      bd_ (fX7_setRegister (x0 + 139) x1 x2 q8.2) fun q10 =>
      bd_ (fX11_forgetRuns x0 q10.2) fun q11 =>
      some (1, q11.2)))
theorem cX11_set_ok (l : Launch) {E : En_} {sz : Int} (hC : Cl_ E.2.2.2.2.2 sz) (hG : Pg_ E.2.2.2.2.2) {x0 x1 x2 : Int} {v : V_} {out : Int × V_} (T0 : (E.2.2.2.2.2 x0 ∧ ty_ x0 = 11 ∧ ln_ x0 = 0)) (h : fX11_set x0 x1 x2 v = some out) : Met l yX11_set [.code yX11_set cX11_set 3 (some FieldType.boolean)] (rm_ 2 47) (Pc_ E sz v [(2, x0), (0, x1), (0, x2)]) (Qc_ E sz 0 out.1 out.2) 0 0 (fun q => E.1 < q) := by
  refine met_G0 RX11 (by decide +kernel) rfl (Nat.le_of_ble_eq_true rfl) ?_
  intro p e s m args below meth c C hr hlk
  rw [fX11_set] at h
  refine g_iload_n C (f := 1) dX11_set_0 1 rfl ?_
  obtain ⟨q1, eq1, h⟩ := bd_e h
  refine g_cS C [(0, x1)] (cX11_isRegister_ok l hC eq1) km_RX11_96 cs_X11_isRegister rfl (by decide) rfl rfl (Nat.le_of_ble_eq_true rfl) dX11_set_1 ?_
  refine g_if_eq C 19 dX11_set_4 rfl (fun c2 => ?_) (fun c2 => ?_)
  · replace h := if_t h c2
    refine g_iconst C (n := 0) dX11_set_19 (by decide) ?_
    cases h
    exact g_zret C dX11_set_20 hr hlk (Or.inl rfl)
  · replace h := if_f h c2
    refine g_aload_n C (f := 0) dX11_set_7 0 rfl ?_
    have F3 := fX11_6 hC T0.1 T0.2.1
    refine g_getR C (k := 6) (o := 139) okX11 (by decide) kf_RX11_37 dX11_set_8 hC T0.1 T0.2.1 rfl rfl ?_
    refine g_iload_n C (f := 1) dX11_set_11 1 rfl ?_
    obtain ⟨q4, eq4, h⟩ := bd_e h
    refine g_cV C [(0, x1)] (cX7_register_ok l hC F3 eq4) okX7 F3.2.1 (rg_ hC F3.1) km_RX11_100 cv_X7_register rfl (by decide) rfl rfl (Nat.le_of_ble_eq_true rfl) dX11_set_12 ?_
    refine g_iload_n C (f := 2) dX11_set_15 2 rfl ?_
    refine g_icmp_ne C 21 dX11_set_16 rfl (fun c5 => ?_) (fun c5 => ?_)
    · replace h := if_f h c5
      refine g_aload_n C (f := 0) dX11_set_21 0 rfl ?_
      have F6 := fX11_7 hC T0.1 T0.2.1
      refine g_getR C (k := 7) (o := 141) okX11 (by decide) kf_RX11_44 dX11_set_22 hC T0.1 T0.2.1 rfl rfl ?_
      refine g_aload_n C (f := 0) dX11_set_25 0 rfl ?_
      have F7 := fX11_6 hC T0.1 T0.2.1
      refine g_getR C (k := 6) (o := 139) okX11 (by decide) kf_RX11_37 dX11_set_26 hC T0.1 T0.2.1 rfl rfl ?_
      obtain ⟨q8, eq8, h⟩ := bd_e h
      refine g_cV C [(2, x0 + 139)] (cX0_note_ok l hC F6 F7 eq8) okX0 F6.2.1 (rg_ hC F6.1) km_RX11_164 cv_X0_note rfl (by decide) rfl rfl (Nat.le_of_ble_eq_true rfl) dX11_set_29 ?_
      refine g_aload_n C (f := 0) dX11_set_32 0 rfl ?_
      have F9 := fX11_6 hC T0.1 T0.2.1
      refine g_getR C (k := 6) (o := 139) okX11 (by decide) kf_RX11_37 dX11_set_33 hC T0.1 T0.2.1 rfl rfl ?_
      refine g_iload_n C (f := 1) dX11_set_36 1 rfl ?_
      refine g_iload_n C (f := 2) dX11_set_37 2 rfl ?_
      obtain ⟨q10, eq10, h⟩ := bd_e h
      refine g_cV C [(0, x1), (0, x2)] (cX7_setRegister_ok l hC F9 eq10) okX7 F9.2.1 (rg_ hC F9.1) km_RX11_168 cv_X7_setRegister rfl (by decide) rfl rfl (Nat.le_of_ble_eq_true rfl) dX11_set_38 ?_
      refine g_aload_n C (f := 0) dX11_set_41 0 rfl ?_
      obtain ⟨q11, eq11, h⟩ := bd_e h
      refine g_cV C [] (cX11_forgetRuns_ok l hC hG T0 eq11) okX11 T0.2.1 (rg_ hC T0.1) km_RX11_172 cv_X11_forgetRuns rfl (by decide) rfl rfl (Nat.le_of_ble_eq_true rfl) dX11_set_42 ?_
      refine g_iconst C (n := 1) dX11_set_45 (by decide) ?_
      cases h
      exact g_zret C dX11_set_46 hr hlk (Or.inr rfl)
    · replace h := if_t h c5
      refine g_iconst C (n := 0) dX11_set_19 (by decide) ?_
      cases h
      exact g_zret C dX11_set_20 hr hlk (Or.inl rfl)
theorem dX11_slow_0 : decode cX11_slow 0 = .ok (.iload_n 1, 1) := by decide +kernel
theorem dX11_slow_1 : decode cX11_slow 1 = .ok (.tableswitch 51 0 2 #[27, 35, 43], 27) := by decide +kernel
theorem dX11_slow_28 : decode cX11_slow 28 = .ok (.aload_n 0, 1) := by decide +kernel
theorem dX11_slow_29 : decode cX11_slow 29 = .ok (.invokevirtual 178, 3) := by decide +kernel
theorem dX11_slow_32 : decode cX11_slow 32 = .ok (.getfield 182, 3) := by decide +kernel
theorem dX11_slow_35 : decode cX11_slow 35 = .ok (.ireturn, 1) := by decide +kernel
theorem dX11_slow_36 : decode cX11_slow 36 = .ok (.aload_n 0, 1) := by decide +kernel
theorem dX11_slow_37 : decode cX11_slow 37 = .ok (.invokevirtual 178, 3) := by decide +kernel
theorem dX11_slow_40 : decode cX11_slow 40 = .ok (.getfield 307, 3) := by decide +kernel
theorem dX11_slow_43 : decode cX11_slow 43 = .ok (.ireturn, 1) := by decide +kernel
theorem dX11_slow_44 : decode cX11_slow 44 = .ok (.aload_n 0, 1) := by decide +kernel
theorem dX11_slow_45 : decode cX11_slow 45 = .ok (.invokevirtual 178, 3) := by decide +kernel
theorem dX11_slow_48 : decode cX11_slow 48 = .ok (.getfield 310, 3) := by decide +kernel
theorem dX11_slow_51 : decode cX11_slow 51 = .ok (.ireturn, 1) := by decide +kernel
theorem dX11_slow_52 : decode cX11_slow 52 = .ok (.iconst (-1), 1) := by decide +kernel
theorem dX11_slow_53 : decode cX11_slow 53 = .ok (.ireturn, 1) := by decide +kernel
def fX11_slow (x0 x1 : Int) (v : V_) : Option (Int × V_) :=
  if x1 = 0 then (
    bd_ (fX11_knownSlow x0 v) fun q2 =>
    some (q2.2 q2.1 4, q2.2))
  else (
  if x1 = 1 then (
    bd_ (fX11_knownSlow x0 v) fun q5 =>
    some (q5.2 q5.1 5, q5.2))
  else (
  if x1 = 2 then (
    bd_ (fX11_knownSlow x0 v) fun q8 =>
    some (q8.2 q8.1 6, q8.2))
  else (
  some ((-1), v))))
theorem cX11_slow_ok (l : Launch) {E : En_} {sz : Int} (hC : Cl_ E.2.2.2.2.2 sz) (hG : Pg_ E.2.2.2.2.2) {x0 x1 : Int} {v : V_} {out : Int × V_} (T0 : (E.2.2.2.2.2 x0 ∧ ty_ x0 = 11 ∧ ln_ x0 = 0)) (h : fX11_slow x0 x1 v = some out) : Met l yX11_slow [.code yX11_slow cX11_slow 2 (some FieldType.int)] (rm_ 5 113) (Pc_ E sz v [(2, x0), (0, x1)]) (Qc_ E sz 0 out.1 out.2) 0 0 (fun q => E.1 < q) := by
  refine met_G0 RX11 (by decide +kernel) rfl (Nat.le_of_ble_eq_true rfl) ?_
  intro p e s m args below meth c C hr hlk
  rw [fX11_slow] at h
  refine g_iload_n C (f := 1) dX11_slow_0 1 rfl ?_
  by_cases c1 : x1 = 0
  · replace h := if_t h c1
    refine g_tin C 28 dX11_slow_1 0 c1 (by decide) (by decide) rfl rfl ?_
    refine g_aload_n C (f := 0) dX11_slow_28 0 rfl ?_
    obtain ⟨q2, eq2, h⟩ := bd_e h
    refine g_cV C [] (cX11_knownSlow_ok l hC hG T0 eq2) okX11 T0.2.1 (rg_ hC T0.1) km_RX11_178 cv_X11_knownSlow rfl (by decide) rfl rfl (Nat.le_of_ble_eq_true rfl) dX11_slow_29 ?_
    have F3 := rX11_knownSlow_ok hC hG T0 eq2
    refine g_getf C (k := 4) (kd := 0) okX6 (by decide) kf_RX11_182 dX11_slow_32 (rg_ hC F3.1) F3.2.1 rfl ?_
    cases h
    exact g_iret C dX11_slow_35 hr hlk
  replace h := if_f h c1
  by_cases c4 : x1 = 1
  · replace h := if_t h c4
    refine g_tin C 36 dX11_slow_1 1 c4 (by decide) (by decide) rfl rfl ?_
    refine g_aload_n C (f := 0) dX11_slow_36 0 rfl ?_
    obtain ⟨q5, eq5, h⟩ := bd_e h
    refine g_cV C [] (cX11_knownSlow_ok l hC hG T0 eq5) okX11 T0.2.1 (rg_ hC T0.1) km_RX11_178 cv_X11_knownSlow rfl (by decide) rfl rfl (Nat.le_of_ble_eq_true rfl) dX11_slow_37 ?_
    have F6 := rX11_knownSlow_ok hC hG T0 eq5
    refine g_getf C (k := 5) (kd := 0) okX6 (by decide) kf_RX11_307 dX11_slow_40 (rg_ hC F6.1) F6.2.1 rfl ?_
    cases h
    exact g_iret C dX11_slow_43 hr hlk
  replace h := if_f h c4
  by_cases c7 : x1 = 2
  · replace h := if_t h c7
    refine g_tin C 44 dX11_slow_1 2 c7 (by decide) (by decide) rfl rfl ?_
    refine g_aload_n C (f := 0) dX11_slow_44 0 rfl ?_
    obtain ⟨q8, eq8, h⟩ := bd_e h
    refine g_cV C [] (cX11_knownSlow_ok l hC hG T0 eq8) okX11 T0.2.1 (rg_ hC T0.1) km_RX11_178 cv_X11_knownSlow rfl (by decide) rfl rfl (Nat.le_of_ble_eq_true rfl) dX11_slow_45 ?_
    have F9 := rX11_knownSlow_ok hC hG T0 eq8
    refine g_getf C (k := 6) (kd := 0) okX6 (by decide) kf_RX11_310 dX11_slow_48 (rg_ hC F9.1) F9.2.1 rfl ?_
    cases h
    exact g_iret C dX11_slow_51 hr hlk
  replace h := if_f h c7
  refine g_tdef C (x := x1) 52 dX11_slow_1 (by intro a ha h1 h2; exact absurd h2 (by omega)) rfl ?_
  refine g_iconst C (n := (-1)) dX11_slow_52 (by decide) ?_
  cases h
  exact g_iret C dX11_slow_53 hr hlk
theorem dX11_trace_0 : decode cX11_trace 0 = .ok (.aload_n 0, 1) := by decide +kernel
theorem dX11_trace_1 : decode cX11_trace 1 = .ok (.invokevirtual 145, 3) := by decide +kernel
theorem dX11_trace_4 : decode cX11_trace 4 = .ok (.iload_n 1, 1) := by decide +kernel
theorem dX11_trace_5 : decode cX11_trace 5 = .ok (.invokevirtual 227, 3) := by decide +kernel
theorem dX11_trace_8 : decode cX11_trace 8 = .ok (.astore_n 3, 1) := by decide +kernel
theorem dX11_trace_9 : decode cX11_trace 9 = .ok (.aload_n 3, 1) := by decide +kernel
theorem dX11_trace_10 : decode cX11_trace 10 = .ok (.ifnonnull 5, 3) := by decide +kernel
theorem dX11_trace_13 : decode cX11_trace 13 = .ok (.iconst (-1), 1) := by decide +kernel
theorem dX11_trace_14 : decode cX11_trace 14 = .ok (.ireturn, 1) := by decide +kernel
theorem dX11_trace_15 : decode cX11_trace 15 = .ok (.iload_n 2, 1) := by decide +kernel
theorem dX11_trace_16 : decode cX11_trace 16 = .ok (.tableswitch 106 0 9 #[56, 61, 66, 71, 76, 81, 86, 91, 96, 101], 56) := by decide +kernel
theorem dX11_trace_72 : decode cX11_trace 72 = .ok (.aload_n 3, 1) := by decide +kernel
theorem dX11_trace_73 : decode cX11_trace 73 = .ok (.getfield 231, 3) := by decide +kernel
theorem dX11_trace_76 : decode cX11_trace 76 = .ok (.ireturn, 1) := by decide +kernel
theorem dX11_trace_77 : decode cX11_trace 77 = .ok (.aload_n 3, 1) := by decide +kernel
theorem dX11_trace_78 : decode cX11_trace 78 = .ok (.getfield 234, 3) := by decide +kernel
theorem dX11_trace_81 : decode cX11_trace 81 = .ok (.ireturn, 1) := by decide +kernel
theorem dX11_trace_82 : decode cX11_trace 82 = .ok (.aload_n 3, 1) := by decide +kernel
theorem dX11_trace_83 : decode cX11_trace 83 = .ok (.getfield 237, 3) := by decide +kernel
theorem dX11_trace_86 : decode cX11_trace 86 = .ok (.ireturn, 1) := by decide +kernel
theorem dX11_trace_87 : decode cX11_trace 87 = .ok (.aload_n 3, 1) := by decide +kernel
theorem dX11_trace_88 : decode cX11_trace 88 = .ok (.getfield 240, 3) := by decide +kernel
theorem dX11_trace_91 : decode cX11_trace 91 = .ok (.ireturn, 1) := by decide +kernel
theorem dX11_trace_92 : decode cX11_trace 92 = .ok (.aload_n 3, 1) := by decide +kernel
theorem dX11_trace_93 : decode cX11_trace 93 = .ok (.getfield 243, 3) := by decide +kernel
theorem dX11_trace_96 : decode cX11_trace 96 = .ok (.ireturn, 1) := by decide +kernel
theorem dX11_trace_97 : decode cX11_trace 97 = .ok (.aload_n 3, 1) := by decide +kernel
theorem dX11_trace_98 : decode cX11_trace 98 = .ok (.getfield 246, 3) := by decide +kernel
theorem dX11_trace_101 : decode cX11_trace 101 = .ok (.ireturn, 1) := by decide +kernel
theorem dX11_trace_102 : decode cX11_trace 102 = .ok (.aload_n 3, 1) := by decide +kernel
theorem dX11_trace_103 : decode cX11_trace 103 = .ok (.getfield 249, 3) := by decide +kernel
theorem dX11_trace_106 : decode cX11_trace 106 = .ok (.ireturn, 1) := by decide +kernel
theorem dX11_trace_107 : decode cX11_trace 107 = .ok (.aload_n 3, 1) := by decide +kernel
theorem dX11_trace_108 : decode cX11_trace 108 = .ok (.getfield 252, 3) := by decide +kernel
theorem dX11_trace_111 : decode cX11_trace 111 = .ok (.ireturn, 1) := by decide +kernel
theorem dX11_trace_112 : decode cX11_trace 112 = .ok (.aload_n 3, 1) := by decide +kernel
theorem dX11_trace_113 : decode cX11_trace 113 = .ok (.getfield 255, 3) := by decide +kernel
theorem dX11_trace_116 : decode cX11_trace 116 = .ok (.ireturn, 1) := by decide +kernel
theorem dX11_trace_117 : decode cX11_trace 117 = .ok (.aload_n 3, 1) := by decide +kernel
theorem dX11_trace_118 : decode cX11_trace 118 = .ok (.getfield 258, 3) := by decide +kernel
theorem dX11_trace_121 : decode cX11_trace 121 = .ok (.ireturn, 1) := by decide +kernel
theorem dX11_trace_122 : decode cX11_trace 122 = .ok (.iconst (-1), 1) := by decide +kernel
theorem dX11_trace_123 : decode cX11_trace 123 = .ok (.ireturn, 1) := by decide +kernel
def fX11_trace (x0 x1 x2 : Int) (v : V_) : Option (Int × V_) :=
  bd_ (fX11_knownPlan x0 v) fun q1 =>
  bd_ (fX4_traceAt q1.1 x1 q1.2) fun q3 =>
  if q3.1 = 0 then (
    some ((-1), q3.2))
  else (
    if x2 = 0 then (
      some (q3.2 q3.1 1, q3.2))
    else (
    if x2 = 1 then (
      some (q3.2 q3.1 3, q3.2))
    else (
    if x2 = 2 then (
      some (q3.2 q3.1 9, q3.2))
    else (
    if x2 = 3 then (
      some (q3.2 q3.1 8, q3.2))
    else (
    if x2 = 4 then (
      some (q3.2 q3.1 7, q3.2))
    else (
    if x2 = 5 then (
      some (q3.2 q3.1 4, q3.2))
    else (
    if x2 = 6 then (
      some (q3.2 q3.1 5, q3.2))
    else (
    if x2 = 7 then (
      some (q3.2 q3.1 6, q3.2))
    else (
    if x2 = 8 then (
      some (q3.2 q3.1 10, q3.2))
    else (
    if x2 = 9 then (
      some (q3.2 q3.1 11, q3.2))
    else (
    some ((-1), q3.2))))))))))))
theorem cX11_trace_ok (l : Launch) {E : En_} {sz : Int} (hC : Cl_ E.2.2.2.2.2 sz) (hG : Pg_ E.2.2.2.2.2) {x0 x1 x2 : Int} {v : V_} {out : Int × V_} (T0 : (E.2.2.2.2.2 x0 ∧ ty_ x0 = 11 ∧ ln_ x0 = 0)) (h : fX11_trace x0 x1 x2 v = some out) : Met l yX11_trace [.code yX11_trace cX11_trace 4 (some FieldType.int)] (rm_ 6 143) (Pc_ E sz v [(2, x0), (0, x1), (0, x2)]) (Qc_ E sz 0 out.1 out.2) 0 0 (fun q => E.1 < q) := by
  refine met_G0 RX11 (by decide +kernel) rfl (Nat.le_of_ble_eq_true rfl) ?_
  intro p e s m args below meth c C hr hlk
  rw [fX11_trace] at h
  refine g_aload_n C (f := 0) dX11_trace_0 0 rfl ?_
  obtain ⟨q1, eq1, h⟩ := bd_e h
  refine g_cV C [] (cX11_knownPlan_ok l hC hG T0 eq1) okX11 T0.2.1 (rg_ hC T0.1) km_RX11_145 cv_X11_knownPlan rfl (by decide) rfl rfl (Nat.le_of_ble_eq_true rfl) dX11_trace_1 ?_
  have F2 := rX11_knownPlan_ok hC hG T0 eq1
  refine g_iload_n C (f := 1) dX11_trace_4 1 rfl ?_
  obtain ⟨q3, eq3, h⟩ := bd_e h
  refine g_cV C [(0, x1)] (cX4_traceAt_ok l hC F2 eq3) okX4 F2.2.1 (rg_ hC F2.1) km_RX11_227 cv_X4_traceAt rfl (by decide) rfl rfl (Nat.le_of_ble_eq_true rfl) dX11_trace_5 ?_
  have F4 := rX4_traceAt_ok hC F2 eq3
  refine g_astore_n C (f := 3) (ls' := [(3, (2, q3.1)), (0, (2, x0)), (1, (0, x1)), (2, (0, x2))]) dX11_trace_8 (by decide) rfl ?_
  refine g_aload_n C (f := 3) dX11_trace_9 0 rfl ?_
  refine g_ifnonnull C 15 dX11_trace_10 rfl (fun c5 => ?_) (fun c5 => ?_)
  · replace h := if_f h c5
    have F6 := Or.resolve_left F4 c5
    refine g_iload_n C (f := 2) dX11_trace_15 3 rfl ?_
    by_cases c7 : x2 = 0
    · replace h := if_t h c7
      refine g_tin C 72 dX11_trace_16 0 c7 (by decide) (by decide) rfl rfl ?_
      refine g_aload_n C (f := 3) dX11_trace_72 0 rfl ?_
      refine g_getf C (k := 1) (kd := 0) okX10 (by decide) kf_RX11_231 dX11_trace_73 (rg_ hC F6.1) F6.2.1 rfl ?_
      cases h
      exact g_iret C dX11_trace_76 hr hlk
    replace h := if_f h c7
    by_cases c8 : x2 = 1
    · replace h := if_t h c8
      refine g_tin C 77 dX11_trace_16 1 c8 (by decide) (by decide) rfl rfl ?_
      refine g_aload_n C (f := 3) dX11_trace_77 0 rfl ?_
      refine g_getf C (k := 3) (kd := 0) okX10 (by decide) kf_RX11_234 dX11_trace_78 (rg_ hC F6.1) F6.2.1 rfl ?_
      cases h
      exact g_iret C dX11_trace_81 hr hlk
    replace h := if_f h c8
    by_cases c9 : x2 = 2
    · replace h := if_t h c9
      refine g_tin C 82 dX11_trace_16 2 c9 (by decide) (by decide) rfl rfl ?_
      refine g_aload_n C (f := 3) dX11_trace_82 0 rfl ?_
      refine g_getf C (k := 9) (kd := 0) okX10 (by decide) kf_RX11_237 dX11_trace_83 (rg_ hC F6.1) F6.2.1 rfl ?_
      cases h
      exact g_iret C dX11_trace_86 hr hlk
    replace h := if_f h c9
    by_cases c10 : x2 = 3
    · replace h := if_t h c10
      refine g_tin C 87 dX11_trace_16 3 c10 (by decide) (by decide) rfl rfl ?_
      refine g_aload_n C (f := 3) dX11_trace_87 0 rfl ?_
      refine g_getf C (k := 8) (kd := 0) okX10 (by decide) kf_RX11_240 dX11_trace_88 (rg_ hC F6.1) F6.2.1 rfl ?_
      cases h
      exact g_iret C dX11_trace_91 hr hlk
    replace h := if_f h c10
    by_cases c11 : x2 = 4
    · replace h := if_t h c11
      refine g_tin C 92 dX11_trace_16 4 c11 (by decide) (by decide) rfl rfl ?_
      refine g_aload_n C (f := 3) dX11_trace_92 0 rfl ?_
      refine g_getf C (k := 7) (kd := 0) okX10 (by decide) kf_RX11_243 dX11_trace_93 (rg_ hC F6.1) F6.2.1 rfl ?_
      cases h
      exact g_iret C dX11_trace_96 hr hlk
    replace h := if_f h c11
    by_cases c12 : x2 = 5
    · replace h := if_t h c12
      refine g_tin C 97 dX11_trace_16 5 c12 (by decide) (by decide) rfl rfl ?_
      refine g_aload_n C (f := 3) dX11_trace_97 0 rfl ?_
      refine g_getf C (k := 4) (kd := 0) okX10 (by decide) kf_RX11_246 dX11_trace_98 (rg_ hC F6.1) F6.2.1 rfl ?_
      cases h
      exact g_iret C dX11_trace_101 hr hlk
    replace h := if_f h c12
    by_cases c13 : x2 = 6
    · replace h := if_t h c13
      refine g_tin C 102 dX11_trace_16 6 c13 (by decide) (by decide) rfl rfl ?_
      refine g_aload_n C (f := 3) dX11_trace_102 0 rfl ?_
      refine g_getf C (k := 5) (kd := 0) okX10 (by decide) kf_RX11_249 dX11_trace_103 (rg_ hC F6.1) F6.2.1 rfl ?_
      cases h
      exact g_iret C dX11_trace_106 hr hlk
    replace h := if_f h c13
    by_cases c14 : x2 = 7
    · replace h := if_t h c14
      refine g_tin C 107 dX11_trace_16 7 c14 (by decide) (by decide) rfl rfl ?_
      refine g_aload_n C (f := 3) dX11_trace_107 0 rfl ?_
      refine g_getf C (k := 6) (kd := 0) okX10 (by decide) kf_RX11_252 dX11_trace_108 (rg_ hC F6.1) F6.2.1 rfl ?_
      cases h
      exact g_iret C dX11_trace_111 hr hlk
    replace h := if_f h c14
    by_cases c15 : x2 = 8
    · replace h := if_t h c15
      refine g_tin C 112 dX11_trace_16 8 c15 (by decide) (by decide) rfl rfl ?_
      refine g_aload_n C (f := 3) dX11_trace_112 0 rfl ?_
      refine g_getf C (k := 10) (kd := 0) okX10 (by decide) kf_RX11_255 dX11_trace_113 (rg_ hC F6.1) F6.2.1 rfl ?_
      cases h
      exact g_iret C dX11_trace_116 hr hlk
    replace h := if_f h c15
    by_cases c16 : x2 = 9
    · replace h := if_t h c16
      refine g_tin C 117 dX11_trace_16 9 c16 (by decide) (by decide) rfl rfl ?_
      refine g_aload_n C (f := 3) dX11_trace_117 0 rfl ?_
      refine g_getf C (k := 11) (kd := 0) okX10 (by decide) kf_RX11_258 dX11_trace_118 (rg_ hC F6.1) F6.2.1 rfl ?_
      cases h
      exact g_iret C dX11_trace_121 hr hlk
    replace h := if_f h c16
    refine g_tdef C (x := x2) 122 dX11_trace_16 (by intro a ha h1 h2; exact absurd h2 (by omega)) rfl ?_
    refine g_iconst C (n := (-1)) dX11_trace_122 (by decide) ?_
    cases h
    exact g_iret C dX11_trace_123 hr hlk
  · replace h := if_t h c5
    refine g_iconst C (n := (-1)) dX11_trace_13 (by decide) ?_
    cases h
    exact g_iret C dX11_trace_14 hr hlk
theorem dX11_traces_0 : decode cX11_traces 0 = .ok (.aload_n 0, 1) := by decide +kernel
theorem dX11_traces_1 : decode cX11_traces 1 = .ok (.invokevirtual 145, 3) := by decide +kernel
theorem dX11_traces_4 : decode cX11_traces 4 = .ok (.getfield 224, 3) := by decide +kernel
theorem dX11_traces_7 : decode cX11_traces 7 = .ok (.ireturn, 1) := by decide +kernel
def fX11_traces (x0 : Int) (v : V_) : Option (Int × V_) :=
  bd_ (fX11_knownPlan x0 v) fun q1 =>
  some (q1.2 q1.1 0, q1.2)
theorem cX11_traces_ok (l : Launch) {E : En_} {sz : Int} (hC : Cl_ E.2.2.2.2.2 sz) (hG : Pg_ E.2.2.2.2.2) {x0 : Int} {v : V_} {out : Int × V_} (T0 : (E.2.2.2.2.2 x0 ∧ ty_ x0 = 11 ∧ ln_ x0 = 0)) (h : fX11_traces x0 v = some out) : Met l yX11_traces [.code yX11_traces cX11_traces 1 (some FieldType.int)] (rm_ 6 143) (Pc_ E sz v [(2, x0)]) (Qc_ E sz 0 out.1 out.2) 0 0 (fun q => E.1 < q) := by
  refine met_G0 RX11 (by decide +kernel) rfl (Nat.le_of_ble_eq_true rfl) ?_
  intro p e s m args below meth c C hr hlk
  rw [fX11_traces] at h
  refine g_aload_n C (f := 0) dX11_traces_0 0 rfl ?_
  obtain ⟨q1, eq1, h⟩ := bd_e h
  refine g_cV C [] (cX11_knownPlan_ok l hC hG T0 eq1) okX11 T0.2.1 (rg_ hC T0.1) km_RX11_145 cv_X11_knownPlan rfl (by decide) rfl rfl (Nat.le_of_ble_eq_true rfl) dX11_traces_1 ?_
  have F2 := rX11_knownPlan_ok hC hG T0 eq1
  refine g_getf C (k := 0) (kd := 0) okX4 (by decide) kf_RX11_224 dX11_traces_4 (rg_ hC F2.1) F2.2.1 rfl ?_
  cases h
  exact g_iret C dX11_traces_7 hr hlk
theorem dX11_undo_0 : decode cX11_undo 0 = .ok (.aload_n 0, 1) := by decide +kernel
theorem dX11_undo_1 : decode cX11_undo 1 = .ok (.getfield 44, 3) := by decide +kernel
theorem dX11_undo_4 : decode cX11_undo 4 = .ok (.aload_n 0, 1) := by decide +kernel
theorem dX11_undo_5 : decode cX11_undo 5 = .ok (.getfield 37, 3) := by decide +kernel
theorem dX11_undo_8 : decode cX11_undo 8 = .ok (.invokevirtual 220, 3) := by decide +kernel
theorem dX11_undo_11 : decode cX11_undo 11 = .ok (.ifCond .ne 5, 3) := by decide +kernel
theorem dX11_undo_14 : decode cX11_undo 14 = .ok (.iconst 0, 1) := by decide +kernel
theorem dX11_undo_15 : decode cX11_undo 15 = .ok (.ireturn, 1) := by decide +kernel
theorem dX11_undo_16 : decode cX11_undo 16 = .ok (.aload_n 0, 1) := by decide +kernel
theorem dX11_undo_17 : decode cX11_undo 17 = .ok (.invokevirtual 93, 3) := by decide +kernel
theorem dX11_undo_20 : decode cX11_undo 20 = .ok (.iconst 1, 1) := by decide +kernel
theorem dX11_undo_21 : decode cX11_undo 21 = .ok (.ireturn, 1) := by decide +kernel
def fX11_undo (x0 : Int) (v : V_) : Option (Int × V_) :=
  bd_ (fX0_takeBack (x0 + 141) (x0 + 139) v) fun q3 =>
  if q3.1 = 0 then (
    some (0, q3.2))
  else (
    bd_ (fX11_forgetAll x0 q3.2) fun q5 =>
    some (1, q5.2))
theorem cX11_undo_ok (l : Launch) {E : En_} {sz : Int} (hC : Cl_ E.2.2.2.2.2 sz) (hG : Pg_ E.2.2.2.2.2) {x0 : Int} {v : V_} {out : Int × V_} (T0 : (E.2.2.2.2.2 x0 ∧ ty_ x0 = 11 ∧ ln_ x0 = 0)) (h : fX11_undo x0 v = some out) : Met l yX11_undo [.code yX11_undo cX11_undo 1 (some FieldType.boolean)] (rm_ 2 47) (Pc_ E sz v [(2, x0)]) (Qc_ E sz 0 out.1 out.2) 0 0 (fun q => E.1 < q) := by
  refine met_G0 RX11 (by decide +kernel) rfl (Nat.le_of_ble_eq_true rfl) ?_
  intro p e s m args below meth c C hr hlk
  rw [fX11_undo] at h
  refine g_aload_n C (f := 0) dX11_undo_0 0 rfl ?_
  have F1 := fX11_7 hC T0.1 T0.2.1
  refine g_getR C (k := 7) (o := 141) okX11 (by decide) kf_RX11_44 dX11_undo_1 hC T0.1 T0.2.1 rfl rfl ?_
  refine g_aload_n C (f := 0) dX11_undo_4 0 rfl ?_
  have F2 := fX11_6 hC T0.1 T0.2.1
  refine g_getR C (k := 6) (o := 139) okX11 (by decide) kf_RX11_37 dX11_undo_5 hC T0.1 T0.2.1 rfl rfl ?_
  obtain ⟨q3, eq3, h⟩ := bd_e h
  refine g_cV C [(2, x0 + 139)] (cX0_takeBack_ok l hC F1 F2 eq3) okX0 F1.2.1 (rg_ hC F1.1) km_RX11_220 cv_X0_takeBack rfl (by decide) rfl rfl (Nat.le_of_ble_eq_true rfl) dX11_undo_8 ?_
  refine g_if_ne C 16 dX11_undo_11 rfl (fun c4 => ?_) (fun c4 => ?_)
  · replace h := if_f h c4
    refine g_aload_n C (f := 0) dX11_undo_16 0 rfl ?_
    obtain ⟨q5, eq5, h⟩ := bd_e h
    refine g_cV C [] (cX11_forgetAll_ok l hC hG T0 eq5) okX11 T0.2.1 (rg_ hC T0.1) km_RX11_93 cv_X11_forgetAll rfl (by decide) rfl rfl (Nat.le_of_ble_eq_true rfl) dX11_undo_17 ?_
    refine g_iconst C (n := 1) dX11_undo_20 (by decide) ?_
    cases h
    exact g_zret C dX11_undo_21 hr hlk (Or.inr rfl)
  · replace h := if_t h c4
    refine g_iconst C (n := 0) dX11_undo_14 (by decide) ?_
    cases h
    exact g_zret C dX11_undo_15 hr hlk (Or.inl rfl)
