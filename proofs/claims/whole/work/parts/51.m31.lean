theorem dX12_member_0 : decode cX12_member 0 = .ok (.aload_n 0, 1) := by decide +kernel
theorem dX12_member_1 : decode cX12_member 1 = .ok (.invokevirtual 542, 3) := by decide +kernel
theorem dX12_member_4 : decode cX12_member 4 = .ok (.aload_n 0, 1) := by decide +kernel
theorem dX12_member_5 : decode cX12_member 5 = .ok (.iload_n 1, 1) := by decide +kernel
theorem dX12_member_6 : decode cX12_member 6 = .ok (.invokevirtual 567, 3) := by decide +kernel
theorem dX12_member_9 : decode cX12_member 9 = .ok (.ifCond .eq 32, 3) := by decide +kernel
theorem dX12_member_12 : decode cX12_member 12 = .ok (.iload_n 2, 1) := by decide +kernel
theorem dX12_member_13 : decode cX12_member 13 = .ok (.iconst 0, 1) := by decide +kernel
theorem dX12_member_14 : decode cX12_member 14 = .ok (.aload_n 0, 1) := by decide +kernel
theorem dX12_member_15 : decode cX12_member 15 = .ok (.getfield 115, 3) := by decide +kernel
theorem dX12_member_18 : decode cX12_member 18 = .ok (.iload_n 1, 1) := by decide +kernel
theorem dX12_member_19 : decode cX12_member 19 = .ok (.iaload, 1) := by decide +kernel
theorem dX12_member_20 : decode cX12_member 20 = .ok (.iconst 1, 1) := by decide +kernel
theorem dX12_member_21 : decode cX12_member 21 = .ok (.isub, 1) := by decide +kernel
theorem dX12_member_22 : decode cX12_member 22 = .ok (.invokestatic 334, 3) := by decide +kernel
theorem dX12_member_25 : decode cX12_member 25 = .ok (.ifCond .eq 16, 3) := by decide +kernel
theorem dX12_member_28 : decode cX12_member 28 = .ok (.aload_n 0, 1) := by decide +kernel
theorem dX12_member_29 : decode cX12_member 29 = .ok (.getfield 112, 3) := by decide +kernel
theorem dX12_member_32 : decode cX12_member 32 = .ok (.iconst 4, 1) := by decide +kernel
theorem dX12_member_33 : decode cX12_member 33 = .ok (.iload_n 1, 1) := by decide +kernel
theorem dX12_member_34 : decode cX12_member 34 = .ok (.imul, 1) := by decide +kernel
theorem dX12_member_35 : decode cX12_member 35 = .ok (.iload_n 2, 1) := by decide +kernel
theorem dX12_member_36 : decode cX12_member 36 = .ok (.iadd, 1) := by decide +kernel
theorem dX12_member_37 : decode cX12_member 37 = .ok (.iaload, 1) := by decide +kernel
theorem dX12_member_38 : decode cX12_member 38 = .ok (.goto 4, 3) := by decide +kernel
theorem dX12_member_41 : decode cX12_member 41 = .ok (.iconst (-1), 1) := by decide +kernel
theorem dX12_member_42 : decode cX12_member 42 = .ok (.ireturn, 1) := by decide +kernel
def fX12_member (x0 x1 x2 : Int) (v : V_) : Option (Int × V_) :=
  bd_ (fX12_plansAll x0 v) fun q1 =>
  bd_ (fX12_isTrace x0 x1 q1.2) fun q2 =>
  if q2.1 = 0 then (
    some ((-1), q2.2))
  else (
    ck_ (0 ≤ x1 ∧ x1 < 8) (
    bd_ (fX12_in x2 0 (wr_ ((q2.2 (x0 + 33) x1) - 1)) q2.2) fun q6 =>
    if q6.1 = 0 then (
      some ((-1), q6.2))
    else (
      ck_ (0 ≤ wr_ ((wr_ (4 * x1)) + x2) ∧ wr_ ((wr_ (4 * x1)) + x2) < 32) (
      some (q6.2 (x0 + 32) (wr_ ((wr_ (4 * x1)) + x2)), q6.2)))))
theorem cX12_member_ok (l : Launch) {E : En_} {sz : Int} (hC : Cl_ E.2.2.2.2.2 sz) {x0 x1 x2 : Int} {v : V_} {out : Int × V_} (T0 : (E.2.2.2.2.2 x0 ∧ ty_ x0 = 12 ∧ ln_ x0 = 0)) (h : fX12_member x0 x1 x2 v = some out) : Met l yX12_member [.code yX12_member cX12_member 3 (some FieldType.int)] (rm_ 6 133) (Pc_ E sz v [(2, x0), (0, x1), (0, x2)]) (Qc_ E sz 0 out.1 out.2) 0 0 (fun q => E.1 < q) := by
  refine met_G0 RX12 (by decide +kernel) rfl (Nat.le_of_ble_eq_true rfl) ?_
  intro p e s m args below meth c C hr hlk
  rw [fX12_member] at h
  refine g_aload_n C (f := 0) dX12_member_0 0 rfl ?_
  obtain ⟨q1, eq1, h⟩ := bd_e h
  refine g_cV C [] (cX12_plansAll_ok l hC T0 eq1) okX12 T0.2.1 (rg_ hC T0.1) km_RX12_542 cv_X12_plansAll rfl (by decide) rfl rfl (Nat.le_of_ble_eq_true rfl) dX12_member_1 ?_
  refine g_aload_n C (f := 0) dX12_member_4 0 rfl ?_
  refine g_iload_n C (f := 1) dX12_member_5 1 rfl ?_
  obtain ⟨q2, eq2, h⟩ := bd_e h
  refine g_cV C [(0, x1)] (cX12_isTrace_ok l hC T0 eq2) okX12 T0.2.1 (rg_ hC T0.1) km_RX12_567 cv_X12_isTrace rfl (by decide) rfl rfl (Nat.le_of_ble_eq_true rfl) dX12_member_6 ?_
  refine g_if_eq C 41 dX12_member_9 rfl (fun c3 => ?_) (fun c3 => ?_)
  · replace h := if_t h c3
    refine g_iconst C (n := (-1)) dX12_member_41 (by decide) ?_
    cases h
    exact g_iret C dX12_member_42 hr hlk
  · replace h := if_f h c3
    refine g_iload_n C (f := 2) dX12_member_12 2 rfl ?_
    refine g_iconst C (n := 0) dX12_member_13 (by decide) ?_
    refine g_aload_n C (f := 0) dX12_member_14 0 rfl ?_
    have F4 := fX12_51 hC T0.1 T0.2.1
    refine g_getR C (k := 51) (o := 33) okX12 (by decide) kf_RX12_115 dX12_member_15 hC T0.1 T0.2.1 rfl rfl ?_
    refine g_iload_n C (f := 1) dX12_member_18 1 rfl ?_
    obtain ⟨c5, h⟩ := ck_e h
    refine g_iald C 8 dX12_member_19 (rg_ hC F4.1) F4.2.1 F4.2.2 c5 ?_
    refine g_iconst C (n := 1) dX12_member_20 (by decide) ?_
    refine g_isub C dX12_member_21 ?_
    obtain ⟨q6, eq6, h⟩ := bd_e h
    refine g_cS C [(0, x2), (0, 0), (0, wr_ ((q2.2 (x0 + 33) x1) - 1))] (cX12_in_ok l hC eq6) km_RX12_334 cs_X12_in rfl (by decide) rfl rfl (Nat.le_of_ble_eq_true rfl) dX12_member_22 ?_
    refine g_if_eq C 41 dX12_member_25 rfl (fun c7 => ?_) (fun c7 => ?_)
    · replace h := if_t h c7
      refine g_iconst C (n := (-1)) dX12_member_41 (by decide) ?_
      cases h
      exact g_iret C dX12_member_42 hr hlk
    · replace h := if_f h c7
      refine g_aload_n C (f := 0) dX12_member_28 0 rfl ?_
      have F8 := fX12_50 hC T0.1 T0.2.1
      refine g_getR C (k := 50) (o := 32) okX12 (by decide) kf_RX12_112 dX12_member_29 hC T0.1 T0.2.1 rfl rfl ?_
      refine g_iconst C (n := 4) dX12_member_32 (by decide) ?_
      refine g_iload_n C (f := 1) dX12_member_33 1 rfl ?_
      refine g_imul C dX12_member_34 ?_
      refine g_iload_n C (f := 2) dX12_member_35 2 rfl ?_
      refine g_iadd C dX12_member_36 ?_
      obtain ⟨c9, h⟩ := ck_e h
      refine g_iald C 32 dX12_member_37 (rg_ hC F8.1) F8.2.1 F8.2.2 c9 ?_
      refine g_goto C 42 dX12_member_38 rfl ?_
      cases h
      exact g_iret C dX12_member_42 hr hlk
theorem dX12_must_0 : decode cX12_must 0 = .ok (.aload_n 0, 1) := by decide +kernel
theorem dX12_must_1 : decode cX12_must 1 = .ok (.iload_n 1, 1) := by decide +kernel
theorem dX12_must_2 : decode cX12_must 2 = .ok (.invokevirtual 263, 3) := by decide +kernel
theorem dX12_must_5 : decode cX12_must 5 = .ok (.ifCond .eq 10, 3) := by decide +kernel
theorem dX12_must_8 : decode cX12_must 8 = .ok (.aload_n 0, 1) := by decide +kernel
theorem dX12_must_9 : decode cX12_must 9 = .ok (.invokevirtual 266, 3) := by decide +kernel
theorem dX12_must_12 : decode cX12_must 12 = .ok (.goto 8, 3) := by decide +kernel
theorem dX12_must_15 : decode cX12_must 15 = .ok (.aload_n 0, 1) := by decide +kernel
theorem dX12_must_16 : decode cX12_must 16 = .ok (.iconst 1, 1) := by decide +kernel
theorem dX12_must_17 : decode cX12_must 17 = .ok (.invokevirtual 260, 3) := by decide +kernel
theorem dX12_must_20 : decode cX12_must 20 = .ok (.return_, 1) := by decide +kernel
def fX12_must (x0 x1 : Int) (v : V_) : Option (Int × V_) :=
  bd_ (fX12_is x0 x1 v) fun q1 =>
  if q1.1 = 0 then (
    bd_ (fX12_fail x0 1 q1.2) fun q3 =>
    some (0, q3.2))
  else (
    bd_ (fX12_goesOn x0 q1.2) fun q4 =>
    some (0, q4.2))
theorem cX12_must_ok (l : Launch) {E : En_} {sz : Int} (hC : Cl_ E.2.2.2.2.2 sz) {x0 x1 : Int} {v : V_} {out : Int × V_} (T0 : (E.2.2.2.2.2 x0 ∧ ty_ x0 = 12 ∧ ln_ x0 = 0)) (h : fX12_must x0 x1 v = some out) : Met l yX12_must [.code yX12_must cX12_must 2 (none : Option FieldType)] (rm_ 2 41) (Pc_ E sz v [(2, x0), (0, x1)]) (Qc_ E sz 9 out.1 out.2) 0 0 (fun q => E.1 < q) := by
  refine met_G0 RX12 (by decide +kernel) rfl (Nat.le_of_ble_eq_true rfl) ?_
  intro p e s m args below meth c C hr hlk
  rw [fX12_must] at h
  refine g_aload_n C (f := 0) dX12_must_0 0 rfl ?_
  refine g_iload_n C (f := 1) dX12_must_1 1 rfl ?_
  obtain ⟨q1, eq1, h⟩ := bd_e h
  refine g_cV C [(0, x1)] (cX12_is_ok l hC T0 eq1) okX12 T0.2.1 (rg_ hC T0.1) km_RX12_263 cv_X12_is rfl (by decide) rfl rfl (Nat.le_of_ble_eq_true rfl) dX12_must_2 ?_
  refine g_if_eq C 15 dX12_must_5 rfl (fun c2 => ?_) (fun c2 => ?_)
  · replace h := if_t h c2
    refine g_aload_n C (f := 0) dX12_must_15 0 rfl ?_
    refine g_iconst C (n := 1) dX12_must_16 (by decide) ?_
    obtain ⟨q3, eq3, h⟩ := bd_e h
    refine g_cV C [(0, 1)] (cX12_fail_ok l hC T0 eq3) okX12 T0.2.1 (rg_ hC T0.1) km_RX12_260 cv_X12_fail rfl (by decide) rfl rfl (Nat.le_of_ble_eq_true rfl) dX12_must_17 ?_
    cases h
    exact g_vret C dX12_must_20 hr hlk
  · replace h := if_f h c2
    refine g_aload_n C (f := 0) dX12_must_8 0 rfl ?_
    obtain ⟨q4, eq4, h⟩ := bd_e h
    refine g_cV C [] (cX12_goesOn_ok l hC T0 eq4) okX12 T0.2.1 (rg_ hC T0.1) km_RX12_266 cv_X12_goesOn rfl (by decide) rfl rfl (Nat.le_of_ble_eq_true rfl) dX12_must_9 ?_
    refine g_goto C 20 dX12_must_12 rfl ?_
    cases h
    exact g_vret C dX12_must_20 hr hlk
theorem dX12_needs_0 : decode cX12_needs 0 = .ok (.aload_n 0, 1) := by decide +kernel
theorem dX12_needs_1 : decode cX12_needs 1 = .ok (.invokevirtual 542, 3) := by decide +kernel
theorem dX12_needs_4 : decode cX12_needs 4 = .ok (.aload_n 0, 1) := by decide +kernel
theorem dX12_needs_5 : decode cX12_needs 5 = .ok (.iload_n 1, 1) := by decide +kernel
theorem dX12_needs_6 : decode cX12_needs 6 = .ok (.iload_n 2, 1) := by decide +kernel
theorem dX12_needs_7 : decode cX12_needs 7 = .ok (.invokevirtual 585, 3) := by decide +kernel
theorem dX12_needs_10 : decode cX12_needs 10 = .ok (.ifCond .eq 36, 3) := by decide +kernel
theorem dX12_needs_13 : decode cX12_needs 13 = .ok (.aload_n 0, 1) := by decide +kernel
theorem dX12_needs_14 : decode cX12_needs 14 = .ok (.iload_n 1, 1) := by decide +kernel
theorem dX12_needs_15 : decode cX12_needs 15 = .ok (.iload_n 3, 1) := by decide +kernel
theorem dX12_needs_16 : decode cX12_needs 16 = .ok (.invokevirtual 585, 3) := by decide +kernel
theorem dX12_needs_19 : decode cX12_needs 19 = .ok (.ifCond .eq 27, 3) := by decide +kernel
theorem dX12_needs_22 : decode cX12_needs 22 = .ok (.iload_n 2, 1) := by decide +kernel
theorem dX12_needs_23 : decode cX12_needs 23 = .ok (.iload_n 3, 1) := by decide +kernel
theorem dX12_needs_24 : decode cX12_needs 24 = .ok (.if_icmp .ge 22, 3) := by decide +kernel
theorem dX12_needs_27 : decode cX12_needs 27 = .ok (.aload_n 0, 1) := by decide +kernel
theorem dX12_needs_28 : decode cX12_needs 28 = .ok (.bipush 34, 2) := by decide +kernel
theorem dX12_needs_30 : decode cX12_needs 30 = .ok (.iload_n 1, 1) := by decide +kernel
theorem dX12_needs_31 : decode cX12_needs 31 = .ok (.imul, 1) := by decide +kernel
theorem dX12_needs_32 : decode cX12_needs 32 = .ok (.iload_n 2, 1) := by decide +kernel
theorem dX12_needs_33 : decode cX12_needs 33 = .ok (.iadd, 1) := by decide +kernel
theorem dX12_needs_34 : decode cX12_needs 34 = .ok (.bipush 34, 2) := by decide +kernel
theorem dX12_needs_36 : decode cX12_needs 36 = .ok (.iload_n 1, 1) := by decide +kernel
theorem dX12_needs_37 : decode cX12_needs 37 = .ok (.imul, 1) := by decide +kernel
theorem dX12_needs_38 : decode cX12_needs 38 = .ok (.iload_n 3, 1) := by decide +kernel
theorem dX12_needs_39 : decode cX12_needs 39 = .ok (.iadd, 1) := by decide +kernel
theorem dX12_needs_40 : decode cX12_needs 40 = .ok (.invokevirtual 467, 3) := by decide +kernel
theorem dX12_needs_43 : decode cX12_needs 43 = .ok (.goto 4, 3) := by decide +kernel
theorem dX12_needs_46 : decode cX12_needs 46 = .ok (.iconst (-1), 1) := by decide +kernel
theorem dX12_needs_47 : decode cX12_needs 47 = .ok (.ireturn, 1) := by decide +kernel
def fX12_needs (x0 x1 x2 x3 : Int) (v : V_) : Option (Int × V_) :=
  bd_ (fX12_plansAll x0 v) fun q1 =>
  bd_ (fX12_isItem x0 x1 x2 q1.2) fun q2 =>
  if q2.1 = 0 then (
    some ((-1), q2.2))
  else (
    bd_ (fX12_isItem x0 x1 x3 q2.2) fun q4 =>
    if q4.1 = 0 then (
      some ((-1), q4.2))
    else (
      if x3 ≤ x2 then (
        some ((-1), q4.2))
      else (
        bd_ (fX12_needOf x0 (wr_ ((wr_ (34 * x1)) + x2)) (wr_ ((wr_ (34 * x1)) + x3)) q4.2) fun q7 =>
        some (q7.1, q7.2))))
theorem cX12_needs_ok (l : Launch) {E : En_} {sz : Int} (hC : Cl_ E.2.2.2.2.2 sz) {x0 x1 x2 x3 : Int} {v : V_} {out : Int × V_} (T0 : (E.2.2.2.2.2 x0 ∧ ty_ x0 = 12 ∧ ln_ x0 = 0)) (h : fX12_needs x0 x1 x2 x3 v = some out) : Met l yX12_needs [.code yX12_needs cX12_needs 4 (some FieldType.int)] (rm_ 6 133) (Pc_ E sz v [(2, x0), (0, x1), (0, x2), (0, x3)]) (Qc_ E sz 0 out.1 out.2) 0 0 (fun q => E.1 < q) := by
  refine met_G0 RX12 (by decide +kernel) rfl (Nat.le_of_ble_eq_true rfl) ?_
  intro p e s m args below meth c C hr hlk
  rw [fX12_needs] at h
  refine g_aload_n C (f := 0) dX12_needs_0 0 rfl ?_
  obtain ⟨q1, eq1, h⟩ := bd_e h
  refine g_cV C [] (cX12_plansAll_ok l hC T0 eq1) okX12 T0.2.1 (rg_ hC T0.1) km_RX12_542 cv_X12_plansAll rfl (by decide) rfl rfl (Nat.le_of_ble_eq_true rfl) dX12_needs_1 ?_
  refine g_aload_n C (f := 0) dX12_needs_4 0 rfl ?_
  refine g_iload_n C (f := 1) dX12_needs_5 1 rfl ?_
  refine g_iload_n C (f := 2) dX12_needs_6 2 rfl ?_
  obtain ⟨q2, eq2, h⟩ := bd_e h
  refine g_cV C [(0, x1), (0, x2)] (cX12_isItem_ok l hC T0 eq2) okX12 T0.2.1 (rg_ hC T0.1) km_RX12_585 cv_X12_isItem rfl (by decide) rfl rfl (Nat.le_of_ble_eq_true rfl) dX12_needs_7 ?_
  refine g_if_eq C 46 dX12_needs_10 rfl (fun c3 => ?_) (fun c3 => ?_)
  · replace h := if_t h c3
    refine g_iconst C (n := (-1)) dX12_needs_46 (by decide) ?_
    cases h
    exact g_iret C dX12_needs_47 hr hlk
  · replace h := if_f h c3
    refine g_aload_n C (f := 0) dX12_needs_13 0 rfl ?_
    refine g_iload_n C (f := 1) dX12_needs_14 1 rfl ?_
    refine g_iload_n C (f := 3) dX12_needs_15 3 rfl ?_
    obtain ⟨q4, eq4, h⟩ := bd_e h
    refine g_cV C [(0, x1), (0, x3)] (cX12_isItem_ok l hC T0 eq4) okX12 T0.2.1 (rg_ hC T0.1) km_RX12_585 cv_X12_isItem rfl (by decide) rfl rfl (Nat.le_of_ble_eq_true rfl) dX12_needs_16 ?_
    refine g_if_eq C 46 dX12_needs_19 rfl (fun c5 => ?_) (fun c5 => ?_)
    · replace h := if_t h c5
      refine g_iconst C (n := (-1)) dX12_needs_46 (by decide) ?_
      cases h
      exact g_iret C dX12_needs_47 hr hlk
    · replace h := if_f h c5
      refine g_iload_n C (f := 2) dX12_needs_22 2 rfl ?_
      refine g_iload_n C (f := 3) dX12_needs_23 3 rfl ?_
      refine g_icmp_ge C 46 dX12_needs_24 rfl (fun c6 => ?_) (fun c6 => ?_)
      · replace h := if_t h c6
        refine g_iconst C (n := (-1)) dX12_needs_46 (by decide) ?_
        cases h
        exact g_iret C dX12_needs_47 hr hlk
      · replace h := if_f h c6
        refine g_aload_n C (f := 0) dX12_needs_27 0 rfl ?_
        refine g_bipush C (n := 34) dX12_needs_28 (by decide) ?_
        refine g_iload_n C (f := 1) dX12_needs_30 1 rfl ?_
        refine g_imul C dX12_needs_31 ?_
        refine g_iload_n C (f := 2) dX12_needs_32 2 rfl ?_
        refine g_iadd C dX12_needs_33 ?_
        refine g_bipush C (n := 34) dX12_needs_34 (by decide) ?_
        refine g_iload_n C (f := 1) dX12_needs_36 1 rfl ?_
        refine g_imul C dX12_needs_37 ?_
        refine g_iload_n C (f := 3) dX12_needs_38 3 rfl ?_
        refine g_iadd C dX12_needs_39 ?_
        obtain ⟨q7, eq7, h⟩ := bd_e h
        refine g_cV C [(0, wr_ ((wr_ (34 * x1)) + x2)), (0, wr_ ((wr_ (34 * x1)) + x3))] (cX12_needOf_ok l hC T0 eq7) okX12 T0.2.1 (rg_ hC T0.1) km_RX12_467 cv_X12_needOf rfl (by decide) rfl rfl (Nat.le_of_ble_eq_true rfl) dX12_needs_40 ?_
        refine g_goto C 47 dX12_needs_43 rfl ?_
        cases h
        exact g_iret C dX12_needs_47 hr hlk
theorem dX12_place_0 : decode cX12_place 0 = .ok (.aload_n 0, 1) := by decide +kernel
theorem dX12_place_1 : decode cX12_place 1 = .ok (.getfield 37, 3) := by decide +kernel
theorem dX12_place_4 : decode cX12_place 4 = .ok (.ireturn, 1) := by decide +kernel
def fX12_place (x0 : Int) (v : V_) : Option (Int × V_) :=
  some (v x0 17, v)
theorem cX12_place_ok (l : Launch) {E : En_} {sz : Int} (hC : Cl_ E.2.2.2.2.2 sz) {x0 : Int} {v : V_} {out : Int × V_} (T0 : (E.2.2.2.2.2 x0 ∧ ty_ x0 = 12 ∧ ln_ x0 = 0)) (h : fX12_place x0 v = some out) : Met l yX12_place [.code yX12_place cX12_place 1 (some FieldType.int)] (rm_ 0 0) (Pc_ E sz v [(2, x0)]) (Qc_ E sz 0 out.1 out.2) 0 0 (fun q => E.1 < q) := by
  refine met_G0 RX12 (by decide +kernel) rfl (Nat.le_of_ble_eq_true rfl) ?_
  intro p e s m args below meth c C hr hlk
  rw [fX12_place] at h
  refine g_aload_n C (f := 0) dX12_place_0 0 rfl ?_
  refine g_getf C (k := 17) (kd := 0) okX12 (by decide) kf_RX12_37 dX12_place_1 (rg_ hC T0.1) T0.2.1 rfl ?_
  cases h
  exact g_iret C dX12_place_4 hr hlk
theorem dX12_plain_0 : decode cX12_plain 0 = .ok (.aload_n 0, 1) := by decide +kernel
theorem dX12_plain_1 : decode cX12_plain 1 = .ok (.getfield 43, 3) := by decide +kernel
theorem dX12_plain_4 : decode cX12_plain 4 = .ok (.iload_n 1, 1) := by decide +kernel
theorem dX12_plain_5 : decode cX12_plain 5 = .ok (.iconst 0, 1) := by decide +kernel
theorem dX12_plain_6 : decode cX12_plain 6 = .ok (.iastore, 1) := by decide +kernel
theorem dX12_plain_7 : decode cX12_plain 7 = .ok (.iconst 0, 1) := by decide +kernel
theorem dX12_plain_8 : decode cX12_plain 8 = .ok (.istore_n 2, 1) := by decide +kernel
theorem dX12_plain_9 : decode cX12_plain 9 = .ok (.iload_n 2, 1) := by decide +kernel
theorem dX12_plain_10 : decode cX12_plain 10 = .ok (.iconst 4, 1) := by decide +kernel
theorem dX12_plain_11 : decode cX12_plain 11 = .ok (.if_icmp .ge 49, 3) := by decide +kernel
theorem dX12_plain_14 : decode cX12_plain 14 = .ok (.aload_n 0, 1) := by decide +kernel
theorem dX12_plain_15 : decode cX12_plain 15 = .ok (.getfield 46, 3) := by decide +kernel
theorem dX12_plain_18 : decode cX12_plain 18 = .ok (.iconst 4, 1) := by decide +kernel
theorem dX12_plain_19 : decode cX12_plain 19 = .ok (.iload_n 1, 1) := by decide +kernel
theorem dX12_plain_20 : decode cX12_plain 20 = .ok (.imul, 1) := by decide +kernel
theorem dX12_plain_21 : decode cX12_plain 21 = .ok (.iload_n 2, 1) := by decide +kernel
theorem dX12_plain_22 : decode cX12_plain 22 = .ok (.iadd, 1) := by decide +kernel
theorem dX12_plain_23 : decode cX12_plain 23 = .ok (.iconst 1, 1) := by decide +kernel
theorem dX12_plain_24 : decode cX12_plain 24 = .ok (.iastore, 1) := by decide +kernel
theorem dX12_plain_25 : decode cX12_plain 25 = .ok (.aload_n 0, 1) := by decide +kernel
theorem dX12_plain_26 : decode cX12_plain 26 = .ok (.getfield 49, 3) := by decide +kernel
theorem dX12_plain_29 : decode cX12_plain 29 = .ok (.iconst 4, 1) := by decide +kernel
theorem dX12_plain_30 : decode cX12_plain 30 = .ok (.iload_n 1, 1) := by decide +kernel
theorem dX12_plain_31 : decode cX12_plain 31 = .ok (.imul, 1) := by decide +kernel
theorem dX12_plain_32 : decode cX12_plain 32 = .ok (.iload_n 2, 1) := by decide +kernel
theorem dX12_plain_33 : decode cX12_plain 33 = .ok (.iadd, 1) := by decide +kernel
theorem dX12_plain_34 : decode cX12_plain 34 = .ok (.iload_n 2, 1) := by decide +kernel
theorem dX12_plain_35 : decode cX12_plain 35 = .ok (.iconst 1, 1) := by decide +kernel
theorem dX12_plain_36 : decode cX12_plain 36 = .ok (.if_icmp .ne 7, 3) := by decide +kernel
theorem dX12_plain_39 : decode cX12_plain 39 = .ok (.iconst 3, 1) := by decide +kernel
theorem dX12_plain_40 : decode cX12_plain 40 = .ok (.goto 13, 3) := by decide +kernel
theorem dX12_plain_43 : decode cX12_plain 43 = .ok (.iload_n 2, 1) := by decide +kernel
theorem dX12_plain_44 : decode cX12_plain 44 = .ok (.iconst 2, 1) := by decide +kernel
theorem dX12_plain_45 : decode cX12_plain 45 = .ok (.if_icmp .ne 7, 3) := by decide +kernel
theorem dX12_plain_48 : decode cX12_plain 48 = .ok (.iconst 2, 1) := by decide +kernel
theorem dX12_plain_49 : decode cX12_plain 49 = .ok (.goto 4, 3) := by decide +kernel
theorem dX12_plain_52 : decode cX12_plain 52 = .ok (.iconst 1, 1) := by decide +kernel
theorem dX12_plain_53 : decode cX12_plain 53 = .ok (.iastore, 1) := by decide +kernel
theorem dX12_plain_54 : decode cX12_plain 54 = .ok (.iinc 2 1, 3) := by decide +kernel
theorem dX12_plain_57 : decode cX12_plain 57 = .ok (.goto (-48), 3) := by decide +kernel
theorem dX12_plain_60 : decode cX12_plain 60 = .ok (.return_, 1) := by decide +kernel
def fX12_plain_9 : Nat → Int → Int → Int → V_ → Option (Int × V_)
  | 0, _, _, _, _ => none
  | n + 1, x0, x1, x2, v =>
    if 4 ≤ x2 then (
      some (0, v))
    else (
      ck_ (0 ≤ wr_ ((wr_ (4 * x1)) + x2) ∧ wr_ ((wr_ (4 * x1)) + x2) < 8) (
      lt_ (up_ v (x0 + 10) (wr_ ((wr_ (4 * x1)) + x2)) 1) fun v7 =>
      if x2 = 1 then (
        ck_ (0 ≤ wr_ ((wr_ (4 * x1)) + x2) ∧ wr_ ((wr_ (4 * x1)) + x2) < 8) (
        lt_ (up_ v7 (x0 + 11) (wr_ ((wr_ (4 * x1)) + x2)) 3) fun v18 =>
        lt_ (wr_ (x2 + 1)) fun y19 =>
        (fX12_plain_9 n) x0 x1 y19 v18))
      else (
        if x2 = 2 then (
          ck_ (0 ≤ wr_ ((wr_ (4 * x1)) + x2) ∧ wr_ ((wr_ (4 * x1)) + x2) < 8) (
          lt_ (up_ v7 (x0 + 11) (wr_ ((wr_ (4 * x1)) + x2)) 2) fun v15 =>
          lt_ (wr_ (x2 + 1)) fun y16 =>
          (fX12_plain_9 n) x0 x1 y16 v15))
        else (
          ck_ (0 ≤ wr_ ((wr_ (4 * x1)) + x2) ∧ wr_ ((wr_ (4 * x1)) + x2) < 8) (
          lt_ (up_ v7 (x0 + 11) (wr_ ((wr_ (4 * x1)) + x2)) 1) fun v12 =>
          lt_ (wr_ (x2 + 1)) fun y13 =>
          (fX12_plain_9 n) x0 x1 y13 v12)))))
def fX12_plain (x0 x1 : Int) (v : V_) : Option (Int × V_) :=
  ck_ (0 ≤ x1 ∧ x1 < 2) (
  lt_ (up_ v (x0 + 9) x1 0) fun v3 =>
  fX12_plain_9 fu_ x0 x1 0 v3)
section
variable {E : En_} {p : Program} {l : Launch} {e : Env} {s : State} {m : MethodId} {args : Array Value} {below : List Frame} {meth : Method} {c : Code} {sz : Int}
theorem tX12_plain_9 (C : MC_ E p s m c cX12_plain 3 RX12) (hr : meth.sig.returnType = (none : Option FieldType)) (hlk : meth.locks = false) (hC : Cl_ E.2.2.2.2.2 sz) {out : Int × V_} : ∀ (n : Nat) (x0 x1 x2 : Int) (v : V_), (E.2.2.2.2.2 x0 ∧ ty_ x0 = 12 ∧ ln_ x0 = 0) → fX12_plain_9 n x0 x1 x2 v = some out → G_ E p l e (rm_ 0 0) s m args below meth c 3 sz (Q_ E below args s sz sz 9 out.1 out.2) 9 [(0, (2, x0)), (1, (0, x1)), (2, (0, x2))] [] v sz := by
  intro n
  induction n with
  | zero =>
    intro x0 x1 x2 v T0 h
    cases h
  | succ n H_9 =>
    intro x0 x1 x2 v T0 h
    rw [fX12_plain_9] at h
    refine g_iload_n C (f := 2) dX12_plain_9 2 rfl ?_
    refine g_iconst C (n := 4) dX12_plain_10 (by decide) ?_
    refine g_icmp_ge C 60 dX12_plain_11 rfl (fun c4 => ?_) (fun c4 => ?_)
    · replace h := if_t h c4
      cases h
      exact g_vret C dX12_plain_60 hr hlk
    · replace h := if_f h c4
      refine g_aload_n C (f := 0) dX12_plain_14 0 rfl ?_
      have F5 := fX12_23 hC T0.1 T0.2.1
      refine g_getR C (k := 23) (o := 10) okX12 (by decide) kf_RX12_46 dX12_plain_15 hC T0.1 T0.2.1 rfl rfl ?_
      refine g_iconst C (n := 4) dX12_plain_18 (by decide) ?_
      refine g_iload_n C (f := 1) dX12_plain_19 1 rfl ?_
      refine g_imul C dX12_plain_20 ?_
      refine g_iload_n C (f := 2) dX12_plain_21 2 rfl ?_
      refine g_iadd C dX12_plain_22 ?_
      refine g_iconst C (n := 1) dX12_plain_23 (by decide) ?_
      obtain ⟨c6, h⟩ := ck_e h
      obtain ⟨v7, ev7, h⟩ := lt_e h
      refine g_iast C 8 dX12_plain_24 (rg_ hC F5.1) F5.2.1 F5.2.2 c6 v7 ev7 ?_
      refine g_aload_n C (f := 0) dX12_plain_25 0 rfl ?_
      have F8 := fX12_24 hC T0.1 T0.2.1
      refine g_getR C (k := 24) (o := 11) okX12 (by decide) kf_RX12_49 dX12_plain_26 hC T0.1 T0.2.1 rfl rfl ?_
      refine g_iconst C (n := 4) dX12_plain_29 (by decide) ?_
      refine g_iload_n C (f := 1) dX12_plain_30 1 rfl ?_
      refine g_imul C dX12_plain_31 ?_
      refine g_iload_n C (f := 2) dX12_plain_32 2 rfl ?_
      refine g_iadd C dX12_plain_33 ?_
      refine g_iload_n C (f := 2) dX12_plain_34 2 rfl ?_
      refine g_iconst C (n := 1) dX12_plain_35 (by decide) ?_
      refine g_icmp_ne C 43 dX12_plain_36 rfl (fun c9 => ?_) (fun c9 => ?_)
      · replace h := if_f h c9
        refine g_iload_n C (f := 2) dX12_plain_43 2 rfl ?_
        refine g_iconst C (n := 2) dX12_plain_44 (by decide) ?_
        refine g_icmp_ne C 52 dX12_plain_45 rfl (fun c10 => ?_) (fun c10 => ?_)
        · replace h := if_f h c10
          refine g_iconst C (n := 1) dX12_plain_52 (by decide) ?_
          obtain ⟨c11, h⟩ := ck_e h
          obtain ⟨v12, ev12, h⟩ := lt_e h
          refine g_iast C 8 dX12_plain_53 (rg_ hC F8.1) F8.2.1 F8.2.2 c11 v12 ev12 ?_
          obtain ⟨y13, ey13, h⟩ := lt_e h
          refine g_iincx C (ls' := [(2, (0, y13)), (0, (2, x0)), (1, (0, x1))]) ey13 dX12_plain_54 2 rfl (by decide) (by decide) rfl ?_
          refine g_goto C 9 dX12_plain_57 rfl ?_
          refine g_sub [1, 2, 0] rfl rfl ?_
          exact H_9 _ _ _ _ T0 h
        · replace h := if_t h c10
          refine g_iconst C (n := 2) dX12_plain_48 (by decide) ?_
          refine g_goto C 53 dX12_plain_49 rfl ?_
          obtain ⟨c14, h⟩ := ck_e h
          obtain ⟨v15, ev15, h⟩ := lt_e h
          refine g_iast C 8 dX12_plain_53 (rg_ hC F8.1) F8.2.1 F8.2.2 c14 v15 ev15 ?_
          obtain ⟨y16, ey16, h⟩ := lt_e h
          refine g_iincx C (ls' := [(2, (0, y16)), (0, (2, x0)), (1, (0, x1))]) ey16 dX12_plain_54 2 rfl (by decide) (by decide) rfl ?_
          refine g_goto C 9 dX12_plain_57 rfl ?_
          refine g_sub [1, 2, 0] rfl rfl ?_
          exact H_9 _ _ _ _ T0 h
      · replace h := if_t h c9
        refine g_iconst C (n := 3) dX12_plain_39 (by decide) ?_
        refine g_goto C 53 dX12_plain_40 rfl ?_
        obtain ⟨c17, h⟩ := ck_e h
        obtain ⟨v18, ev18, h⟩ := lt_e h
        refine g_iast C 8 dX12_plain_53 (rg_ hC F8.1) F8.2.1 F8.2.2 c17 v18 ev18 ?_
        obtain ⟨y19, ey19, h⟩ := lt_e h
        refine g_iincx C (ls' := [(2, (0, y19)), (0, (2, x0)), (1, (0, x1))]) ey19 dX12_plain_54 2 rfl (by decide) (by decide) rfl ?_
        refine g_goto C 9 dX12_plain_57 rfl ?_
        refine g_sub [1, 2, 0] rfl rfl ?_
        exact H_9 _ _ _ _ T0 h
end
theorem cX12_plain_ok (l : Launch) {E : En_} {sz : Int} (hC : Cl_ E.2.2.2.2.2 sz) {x0 x1 : Int} {v : V_} {out : Int × V_} (T0 : (E.2.2.2.2.2 x0 ∧ ty_ x0 = 12 ∧ ln_ x0 = 0)) (h : fX12_plain x0 x1 v = some out) : Met l yX12_plain [.code yX12_plain cX12_plain 3 (none : Option FieldType)] (rm_ 0 0) (Pc_ E sz v [(2, x0), (0, x1)]) (Qc_ E sz 9 out.1 out.2) 0 0 (fun q => E.1 < q) := by
  refine met_G0 RX12 (by decide +kernel) rfl (Nat.le_of_ble_eq_true rfl) ?_
  intro p e s m args below meth c C hr hlk
  rw [fX12_plain] at h
  refine g_aload_n C (f := 0) dX12_plain_0 0 rfl ?_
  have F1 := fX12_22 hC T0.1 T0.2.1
  refine g_getR C (k := 22) (o := 9) okX12 (by decide) kf_RX12_43 dX12_plain_1 hC T0.1 T0.2.1 rfl rfl ?_
  refine g_iload_n C (f := 1) dX12_plain_4 1 rfl ?_
  refine g_iconst C (n := 0) dX12_plain_5 (by decide) ?_
  obtain ⟨c2, h⟩ := ck_e h
  obtain ⟨v3, ev3, h⟩ := lt_e h
  refine g_iast C 2 dX12_plain_6 (rg_ hC F1.1) F1.2.1 F1.2.2 c2 v3 ev3 ?_
  refine g_iconst C (n := 0) dX12_plain_7 (by decide) ?_
  refine g_istore_n C (f := 2) (ls' := [(2, (0, 0)), (0, (2, x0)), (1, (0, x1))]) dX12_plain_8 (by decide) rfl ?_
  refine g_sub [1, 2, 0] rfl rfl ?_
  exact tX12_plain_9 C hr hlk hC _ _ _ _ _ T0 h
theorem dX12_put_0 : decode cX12_put 0 = .ok (.iload_n 1, 1) := by decide +kernel
theorem dX12_put_1 : decode cX12_put 1 = .ok (.iconst 0, 1) := by decide +kernel
theorem dX12_put_2 : decode cX12_put 2 = .ok (.bipush 7, 2) := by decide +kernel
theorem dX12_put_4 : decode cX12_put 4 = .ok (.invokestatic 334, 3) := by decide +kernel
theorem dX12_put_7 : decode cX12_put 7 = .ok (.ifCond .eq 19, 3) := by decide +kernel
theorem dX12_put_10 : decode cX12_put 10 = .ok (.aload_n 0, 1) := by decide +kernel
theorem dX12_put_11 : decode cX12_put 11 = .ok (.bipush 6, 2) := by decide +kernel
theorem dX12_put_13 : decode cX12_put 13 = .ok (.iload_n 1, 1) := by decide +kernel
theorem dX12_put_14 : decode cX12_put 14 = .ok (.iadd, 1) := by decide +kernel
theorem dX12_put_15 : decode cX12_put 15 = .ok (.iload_n 2, 1) := by decide +kernel
theorem dX12_put_16 : decode cX12_put 16 = .ok (.invokevirtual 551, 3) := by decide +kernel
theorem dX12_put_19 : decode cX12_put 19 = .ok (.ifCond .eq 7, 3) := by decide +kernel
theorem dX12_put_22 : decode cX12_put 22 = .ok (.iconst 1, 1) := by decide +kernel
theorem dX12_put_23 : decode cX12_put 23 = .ok (.goto 4, 3) := by decide +kernel
theorem dX12_put_26 : decode cX12_put 26 = .ok (.iconst 0, 1) := by decide +kernel
theorem dX12_put_27 : decode cX12_put 27 = .ok (.ireturn, 1) := by decide +kernel
def fX12_put (x0 x1 x2 : Int) (v : V_) : Option (Int × V_) :=
  bd_ (fX12_in x1 0 7 v) fun q1 =>
  if q1.1 = 0 then (
    some (0, q1.2))
  else (
    bd_ (fX12_becomes x0 (wr_ (6 + x1)) x2 q1.2) fun q3 =>
    if q3.1 = 0 then (
      some (0, q3.2))
    else (
      some (1, q3.2)))
theorem cX12_put_ok (l : Launch) {E : En_} {sz : Int} (hC : Cl_ E.2.2.2.2.2 sz) {x0 x1 x2 : Int} {v : V_} {out : Int × V_} (T0 : (E.2.2.2.2.2 x0 ∧ ty_ x0 = 12 ∧ ln_ x0 = 0)) (h : fX12_put x0 x1 x2 v = some out) : Met l yX12_put [.code yX12_put cX12_put 3 (some FieldType.boolean)] (rm_ 3 64) (Pc_ E sz v [(2, x0), (0, x1), (0, x2)]) (Qc_ E sz 0 out.1 out.2) 0 0 (fun q => E.1 < q) := by
  refine met_G0 RX12 (by decide +kernel) rfl (Nat.le_of_ble_eq_true rfl) ?_
  intro p e s m args below meth c C hr hlk
  rw [fX12_put] at h
  refine g_iload_n C (f := 1) dX12_put_0 1 rfl ?_
  refine g_iconst C (n := 0) dX12_put_1 (by decide) ?_
  refine g_bipush C (n := 7) dX12_put_2 (by decide) ?_
  obtain ⟨q1, eq1, h⟩ := bd_e h
  refine g_cS C [(0, x1), (0, 0), (0, 7)] (cX12_in_ok l hC eq1) km_RX12_334 cs_X12_in rfl (by decide) rfl rfl (Nat.le_of_ble_eq_true rfl) dX12_put_4 ?_
  refine g_if_eq C 26 dX12_put_7 rfl (fun c2 => ?_) (fun c2 => ?_)
  · replace h := if_t h c2
    refine g_iconst C (n := 0) dX12_put_26 (by decide) ?_
    cases h
    exact g_zret C dX12_put_27 hr hlk (Or.inl rfl)
  · replace h := if_f h c2
    refine g_aload_n C (f := 0) dX12_put_10 0 rfl ?_
    refine g_bipush C (n := 6) dX12_put_11 (by decide) ?_
    refine g_iload_n C (f := 1) dX12_put_13 1 rfl ?_
    refine g_iadd C dX12_put_14 ?_
    refine g_iload_n C (f := 2) dX12_put_15 2 rfl ?_
    obtain ⟨q3, eq3, h⟩ := bd_e h
    refine g_cV C [(0, wr_ (6 + x1)), (0, x2)] (cX12_becomes_ok l hC T0 eq3) okX12 T0.2.1 (rg_ hC T0.1) km_RX12_551 cv_X12_becomes rfl (by decide) rfl rfl (Nat.le_of_ble_eq_true rfl) dX12_put_16 ?_
    refine g_if_eq C 26 dX12_put_19 rfl (fun c4 => ?_) (fun c4 => ?_)
    · replace h := if_t h c4
      refine g_iconst C (n := 0) dX12_put_26 (by decide) ?_
      cases h
      exact g_zret C dX12_put_27 hr hlk (Or.inl rfl)
    · replace h := if_f h c4
      refine g_iconst C (n := 1) dX12_put_22 (by decide) ?_
      refine g_goto C 27 dX12_put_23 rfl ?_
      cases h
      exact g_zret C dX12_put_27 hr hlk (Or.inr rfl)
theorem dX12_roomFor_0 : decode cX12_roomFor 0 = .ok (.iload_n 1, 1) := by decide +kernel
theorem dX12_roomFor_1 : decode cX12_roomFor 1 = .ok (.iload_n 2, 1) := by decide +kernel
theorem dX12_roomFor_2 : decode cX12_roomFor 2 = .ok (.if_icmp .ne 8, 3) := by decide +kernel
theorem dX12_roomFor_5 : decode cX12_roomFor 5 = .ok (.aload_n 0, 1) := by decide +kernel
theorem dX12_roomFor_6 : decode cX12_roomFor 6 = .ok (.iconst 2, 1) := by decide +kernel
theorem dX12_roomFor_7 : decode cX12_roomFor 7 = .ok (.invokevirtual 260, 3) := by decide +kernel
theorem dX12_roomFor_10 : decode cX12_roomFor 10 = .ok (.aload_n 0, 1) := by decide +kernel
theorem dX12_roomFor_11 : decode cX12_roomFor 11 = .ok (.getfield 245, 3) := by decide +kernel
theorem dX12_roomFor_14 : decode cX12_roomFor 14 = .ok (.ifCond .ne 7, 3) := by decide +kernel
theorem dX12_roomFor_17 : decode cX12_roomFor 17 = .ok (.aload_n 0, 1) := by decide +kernel
theorem dX12_roomFor_18 : decode cX12_roomFor 18 = .ok (.invokevirtual 266, 3) := by decide +kernel
theorem dX12_roomFor_21 : decode cX12_roomFor 21 = .ok (.return_, 1) := by decide +kernel
def fX12_roomFor_10 (x0 : Int) (v : V_) : Option (Int × V_) :=
  if (v x0 13) = 0 then (
    bd_ (fX12_goesOn x0 v) fun q3 =>
    some (0, q3.2))
  else (
    some (0, v))
def fX12_roomFor (x0 x1 x2 : Int) (v : V_) : Option (Int × V_) :=
  if x1 = x2 then (
    bd_ (fX12_fail x0 2 v) fun q4 =>
    fX12_roomFor_10 x0 q4.2)
  else (
    fX12_roomFor_10 x0 v)
section
variable {E : En_} {p : Program} {l : Launch} {e : Env} {s : State} {m : MethodId} {args : Array Value} {below : List Frame} {meth : Method} {c : Code} {sz : Int}
theorem tX12_roomFor_10 (C : MC_ E p s m c cX12_roomFor 3 RX12) (hr : meth.sig.returnType = (none : Option FieldType)) (hlk : meth.locks = false) (hC : Cl_ E.2.2.2.2.2 sz) {out : Int × V_} (x0 : Int) (v : V_) (T0 : (E.2.2.2.2.2 x0 ∧ ty_ x0 = 12 ∧ ln_ x0 = 0)) (h : fX12_roomFor_10 x0 v = some out) : G_ E p l e (rm_ 2 41) s m args below meth c 3 sz (Q_ E below args s sz sz 9 out.1 out.2) 10 [(0, (2, x0))] [] v sz := by
  rw [fX12_roomFor_10] at h
  refine g_aload_n C (f := 0) dX12_roomFor_10 0 rfl ?_
  refine g_getf C (k := 13) (kd := 0) okX12 (by decide) kf_RX12_245 dX12_roomFor_11 (rg_ hC T0.1) T0.2.1 rfl ?_
  refine g_if_ne C 21 dX12_roomFor_14 rfl (fun c2 => ?_) (fun c2 => ?_)
  · replace h := if_f h c2
    cases h
    exact g_vret C dX12_roomFor_21 hr hlk
  · replace h := if_t h c2
    refine g_aload_n C (f := 0) dX12_roomFor_17 0 rfl ?_
    obtain ⟨q3, eq3, h⟩ := bd_e h
    refine g_cV C [] (cX12_goesOn_ok l hC T0 eq3) okX12 T0.2.1 (rg_ hC T0.1) km_RX12_266 cv_X12_goesOn rfl (by decide) rfl rfl (Nat.le_of_ble_eq_true rfl) dX12_roomFor_18 ?_
    cases h
    exact g_vret C dX12_roomFor_21 hr hlk
end
theorem cX12_roomFor_ok (l : Launch) {E : En_} {sz : Int} (hC : Cl_ E.2.2.2.2.2 sz) {x0 x1 x2 : Int} {v : V_} {out : Int × V_} (T0 : (E.2.2.2.2.2 x0 ∧ ty_ x0 = 12 ∧ ln_ x0 = 0)) (h : fX12_roomFor x0 x1 x2 v = some out) : Met l yX12_roomFor [.code yX12_roomFor cX12_roomFor 3 (none : Option FieldType)] (rm_ 2 41) (Pc_ E sz v [(2, x0), (0, x1), (0, x2)]) (Qc_ E sz 9 out.1 out.2) 0 0 (fun q => E.1 < q) := by
  refine met_G0 RX12 (by decide +kernel) rfl (Nat.le_of_ble_eq_true rfl) ?_
  intro p e s m args below meth c C hr hlk
  rw [fX12_roomFor] at h
  refine g_iload_n C (f := 1) dX12_roomFor_0 1 rfl ?_
  refine g_iload_n C (f := 2) dX12_roomFor_1 2 rfl ?_
  refine g_icmp_ne C 10 dX12_roomFor_2 rfl (fun c1 => ?_) (fun c1 => ?_)
  · replace h := if_f h c1
    refine g_sub [0] rfl rfl ?_
    exact tX12_roomFor_10 C hr hlk hC _ _ T0 h
  · replace h := if_t h c1
    refine g_aload_n C (f := 0) dX12_roomFor_5 0 rfl ?_
    refine g_iconst C (n := 2) dX12_roomFor_6 (by decide) ?_
    obtain ⟨q4, eq4, h⟩ := bd_e h
    refine g_cV C [(0, 2)] (cX12_fail_ok l hC T0 eq4) okX12 T0.2.1 (rg_ hC T0.1) km_RX12_260 cv_X12_fail rfl (by decide) rfl rfl (Nat.le_of_ble_eq_true rfl) dX12_roomFor_7 ?_
    refine g_sub [0] rfl rfl ?_
    exact tX12_roomFor_10 C hr hlk hC _ _ T0 h
theorem dX12_registerTold_0 : decode cX12_registerTold 0 = .ok (.aload_n 0, 1) := by decide +kernel
theorem dX12_registerTold_1 : decode cX12_registerTold 1 = .ok (.getfield 20, 3) := by decide +kernel
theorem dX12_registerTold_4 : decode cX12_registerTold 4 = .ok (.aload_n 0, 1) := by decide +kernel
theorem dX12_registerTold_5 : decode cX12_registerTold 5 = .ok (.getfield 248, 3) := by decide +kernel
theorem dX12_registerTold_8 : decode cX12_registerTold 8 = .ok (.iaload, 1) := by decide +kernel
theorem dX12_registerTold_9 : decode cX12_registerTold 9 = .ok (.bipush 31, 2) := by decide +kernel
theorem dX12_registerTold_11 : decode cX12_registerTold 11 = .ok (.isub, 1) := by decide +kernel
theorem dX12_registerTold_12 : decode cX12_registerTold 12 = .ok (.istore_n 1, 1) := by decide +kernel
theorem dX12_registerTold_13 : decode cX12_registerTold 13 = .ok (.aload_n 0, 1) := by decide +kernel
theorem dX12_registerTold_14 : decode cX12_registerTold 14 = .ok (.invokevirtual 314, 3) := by decide +kernel
theorem dX12_registerTold_17 : decode cX12_registerTold 17 = .ok (.ifCond .ne 8, 3) := by decide +kernel
theorem dX12_registerTold_20 : decode cX12_registerTold 20 = .ok (.aload_n 0, 1) := by decide +kernel
theorem dX12_registerTold_21 : decode cX12_registerTold 21 = .ok (.iconst 1, 1) := by decide +kernel
theorem dX12_registerTold_22 : decode cX12_registerTold 22 = .ok (.invokevirtual 260, 3) := by decide +kernel
theorem dX12_registerTold_25 : decode cX12_registerTold 25 = .ok (.aload_n 0, 1) := by decide +kernel
theorem dX12_registerTold_26 : decode cX12_registerTold 26 = .ok (.getfield 245, 3) := by decide +kernel
theorem dX12_registerTold_29 : decode cX12_registerTold 29 = .ok (.ifCond .le 5, 3) := by decide +kernel
theorem dX12_registerTold_32 : decode cX12_registerTold 32 = .ok (.iconst 0, 1) := by decide +kernel
theorem dX12_registerTold_33 : decode cX12_registerTold 33 = .ok (.ireturn, 1) := by decide +kernel
theorem dX12_registerTold_34 : decode cX12_registerTold 34 = .ok (.aload_n 0, 1) := by decide +kernel
theorem dX12_registerTold_35 : decode cX12_registerTold 35 = .ok (.invokevirtual 266, 3) := by decide +kernel
theorem dX12_registerTold_38 : decode cX12_registerTold 38 = .ok (.iload_n 1, 1) := by decide +kernel
theorem dX12_registerTold_39 : decode cX12_registerTold 39 = .ok (.ireturn, 1) := by decide +kernel
def fX12_registerTold_25 (x0 x1 : Int) (v : V_) : Option (Int × V_) :=
  if (v x0 13) ≤ 0 then (
    bd_ (fX12_goesOn x0 v) fun q7 =>
    some (x1, q7.2))
  else (
    some (0, v))
def fX12_registerTold (x0 : Int) (v : V_) : Option (Int × V_) :=
  ck_ (0 ≤ v x0 11 ∧ v x0 11 < 403) (
  lt_ (wr_ ((v (x0 + 3) (v x0 11)) - 31)) fun y3 =>
  bd_ (fX12_isRegister x0 v) fun q4 =>
  if q4.1 = 0 then (
    bd_ (fX12_fail x0 1 q4.2) fun q8 =>
    fX12_registerTold_25 x0 y3 q8.2)
  else (
    fX12_registerTold_25 x0 y3 q4.2))
section
variable {E : En_} {p : Program} {l : Launch} {e : Env} {s : State} {m : MethodId} {args : Array Value} {below : List Frame} {meth : Method} {c : Code} {sz : Int}
theorem tX12_registerTold_25 (C : MC_ E p s m c cX12_registerTold 2 RX12) (hr : meth.sig.returnType = (some FieldType.int)) (hlk : meth.locks = false) (hC : Cl_ E.2.2.2.2.2 sz) {out : Int × V_} (x0 x1 : Int) (v : V_) (T0 : (E.2.2.2.2.2 x0 ∧ ty_ x0 = 12 ∧ ln_ x0 = 0)) (h : fX12_registerTold_25 x0 x1 v = some out) : G_ E p l e (rm_ 2 41) s m args below meth c 2 sz (Q_ E below args s sz sz 0 out.1 out.2) 25 [(0, (2, x0)), (1, (0, x1))] [] v sz := by
  rw [fX12_registerTold_25] at h
  refine g_aload_n C (f := 0) dX12_registerTold_25 0 rfl ?_
  refine g_getf C (k := 13) (kd := 0) okX12 (by decide) kf_RX12_245 dX12_registerTold_26 (rg_ hC T0.1) T0.2.1 rfl ?_
  refine g_if_le C 34 dX12_registerTold_29 rfl (fun c6 => ?_) (fun c6 => ?_)
  · replace h := if_t h c6
    refine g_aload_n C (f := 0) dX12_registerTold_34 0 rfl ?_
    obtain ⟨q7, eq7, h⟩ := bd_e h
    refine g_cV C [] (cX12_goesOn_ok l hC T0 eq7) okX12 T0.2.1 (rg_ hC T0.1) km_RX12_266 cv_X12_goesOn rfl (by decide) rfl rfl (Nat.le_of_ble_eq_true rfl) dX12_registerTold_35 ?_
    refine g_iload_n C (f := 1) dX12_registerTold_38 1 rfl ?_
    cases h
    exact g_iret C dX12_registerTold_39 hr hlk
  · replace h := if_f h c6
    refine g_iconst C (n := 0) dX12_registerTold_32 (by decide) ?_
    cases h
    exact g_iret C dX12_registerTold_33 hr hlk
end
theorem cX12_registerTold_ok (l : Launch) {E : En_} {sz : Int} (hC : Cl_ E.2.2.2.2.2 sz) {x0 : Int} {v : V_} {out : Int × V_} (T0 : (E.2.2.2.2.2 x0 ∧ ty_ x0 = 12 ∧ ln_ x0 = 0)) (h : fX12_registerTold x0 v = some out) : Met l yX12_registerTold [.code yX12_registerTold cX12_registerTold 2 (some FieldType.int)] (rm_ 2 41) (Pc_ E sz v [(2, x0)]) (Qc_ E sz 0 out.1 out.2) 0 0 (fun q => E.1 < q) := by
  refine met_G0 RX12 (by decide +kernel) rfl (Nat.le_of_ble_eq_true rfl) ?_
  intro p e s m args below meth c C hr hlk
  rw [fX12_registerTold] at h
  refine g_aload_n C (f := 0) dX12_registerTold_0 0 rfl ?_
  have F1 := fX12_5 hC T0.1 T0.2.1
  refine g_getR C (k := 5) (o := 3) okX12 (by decide) kf_RX12_20 dX12_registerTold_1 hC T0.1 T0.2.1 rfl rfl ?_
  refine g_aload_n C (f := 0) dX12_registerTold_4 0 rfl ?_
  refine g_getf C (k := 11) (kd := 0) okX12 (by decide) kf_RX12_248 dX12_registerTold_5 (rg_ hC T0.1) T0.2.1 rfl ?_
  obtain ⟨c2, h⟩ := ck_e h
  refine g_iald C 403 dX12_registerTold_8 (rg_ hC F1.1) F1.2.1 F1.2.2 c2 ?_
  refine g_bipush C (n := 31) dX12_registerTold_9 (by decide) ?_
  refine g_isub C dX12_registerTold_11 ?_
  obtain ⟨y3, ey3, h⟩ := lt_e h
  refine g_set C ey3 ?_
  refine g_istore_n C (f := 1) (ls' := [(1, (0, y3)), (0, (2, x0))]) dX12_registerTold_12 (by decide) rfl ?_
  refine g_aload_n C (f := 0) dX12_registerTold_13 1 rfl ?_
  obtain ⟨q4, eq4, h⟩ := bd_e h
  refine g_cV C [] (cX12_isRegister_ok l hC T0 eq4) okX12 T0.2.1 (rg_ hC T0.1) km_RX12_314 cv_X12_isRegister rfl (by decide) rfl rfl (Nat.le_of_ble_eq_true rfl) dX12_registerTold_14 ?_
  refine g_if_ne C 25 dX12_registerTold_17 rfl (fun c5 => ?_) (fun c5 => ?_)
  · replace h := if_f h c5
    refine g_sub [1, 0] rfl rfl ?_
    exact tX12_registerTold_25 C hr hlk hC _ _ _ T0 h
  · replace h := if_t h c5
    refine g_aload_n C (f := 0) dX12_registerTold_20 1 rfl ?_
    refine g_iconst C (n := 1) dX12_registerTold_21 (by decide) ?_
    obtain ⟨q8, eq8, h⟩ := bd_e h
    refine g_cV C [(0, 1)] (cX12_fail_ok l hC T0 eq8) okX12 T0.2.1 (rg_ hC T0.1) km_RX12_260 cv_X12_fail rfl (by decide) rfl rfl (Nat.le_of_ble_eq_true rfl) dX12_registerTold_22 ?_
    refine g_sub [1, 0] rfl rfl ?_
    exact tX12_registerTold_25 C hr hlk hC _ _ _ T0 h
theorem dX12_valueTold_0 : decode cX12_valueTold 0 = .ok (.aload_n 0, 1) := by decide +kernel
theorem dX12_valueTold_1 : decode cX12_valueTold 1 = .ok (.iconst 2, 1) := by decide +kernel
theorem dX12_valueTold_2 : decode cX12_valueTold 2 = .ok (.invokevirtual 263, 3) := by decide +kernel
theorem dX12_valueTold_5 : decode cX12_valueTold 5 = .ok (.ifCond .ne 8, 3) := by decide +kernel
theorem dX12_valueTold_8 : decode cX12_valueTold 8 = .ok (.aload_n 0, 1) := by decide +kernel
theorem dX12_valueTold_9 : decode cX12_valueTold 9 = .ok (.invokevirtual 324, 3) := by decide +kernel
theorem dX12_valueTold_12 : decode cX12_valueTold 12 = .ok (.ireturn, 1) := by decide +kernel
theorem dX12_valueTold_13 : decode cX12_valueTold 13 = .ok (.aload_n 0, 1) := by decide +kernel
theorem dX12_valueTold_14 : decode cX12_valueTold 14 = .ok (.getfield 27, 3) := by decide +kernel
theorem dX12_valueTold_17 : decode cX12_valueTold 17 = .ok (.aload_n 0, 1) := by decide +kernel
theorem dX12_valueTold_18 : decode cX12_valueTold 18 = .ok (.getfield 248, 3) := by decide +kernel
theorem dX12_valueTold_21 : decode cX12_valueTold 21 = .ok (.iaload, 1) := by decide +kernel
theorem dX12_valueTold_22 : decode cX12_valueTold 22 = .ok (.istore_n 1, 1) := by decide +kernel
theorem dX12_valueTold_23 : decode cX12_valueTold 23 = .ok (.aload_n 0, 1) := by decide +kernel
theorem dX12_valueTold_24 : decode cX12_valueTold 24 = .ok (.invokevirtual 266, 3) := by decide +kernel
theorem dX12_valueTold_27 : decode cX12_valueTold 27 = .ok (.bipush 20, 2) := by decide +kernel
theorem dX12_valueTold_29 : decode cX12_valueTold 29 = .ok (.iload_n 1, 1) := by decide +kernel
theorem dX12_valueTold_30 : decode cX12_valueTold 30 = .ok (.iadd, 1) := by decide +kernel
theorem dX12_valueTold_31 : decode cX12_valueTold 31 = .ok (.ireturn, 1) := by decide +kernel
def fX12_valueTold (x0 : Int) (v : V_) : Option (Int × V_) :=
  bd_ (fX12_is x0 2 v) fun q1 =>
  if q1.1 = 0 then (
    bd_ (fX12_registerTold x0 q1.2) fun q7 =>
    some (q7.1, q7.2))
  else (
    ck_ (0 ≤ q1.2 x0 11 ∧ q1.2 x0 11 < 403) (
    lt_ (q1.2 (x0 + 5) (q1.2 x0 11)) fun y5 =>
    bd_ (fX12_goesOn x0 q1.2) fun q6 =>
    some (wr_ (20 + y5), q6.2)))
theorem cX12_valueTold_ok (l : Launch) {E : En_} {sz : Int} (hC : Cl_ E.2.2.2.2.2 sz) {x0 : Int} {v : V_} {out : Int × V_} (T0 : (E.2.2.2.2.2 x0 ∧ ty_ x0 = 12 ∧ ln_ x0 = 0)) (h : fX12_valueTold x0 v = some out) : Met l yX12_valueTold [.code yX12_valueTold cX12_valueTold 2 (some FieldType.int)] (rm_ 3 62) (Pc_ E sz v [(2, x0)]) (Qc_ E sz 0 out.1 out.2) 0 0 (fun q => E.1 < q) := by
  refine met_G0 RX12 (by decide +kernel) rfl (Nat.le_of_ble_eq_true rfl) ?_
  intro p e s m args below meth c C hr hlk
  rw [fX12_valueTold] at h
  refine g_aload_n C (f := 0) dX12_valueTold_0 0 rfl ?_
  refine g_iconst C (n := 2) dX12_valueTold_1 (by decide) ?_
  obtain ⟨q1, eq1, h⟩ := bd_e h
  refine g_cV C [(0, 2)] (cX12_is_ok l hC T0 eq1) okX12 T0.2.1 (rg_ hC T0.1) km_RX12_263 cv_X12_is rfl (by decide) rfl rfl (Nat.le_of_ble_eq_true rfl) dX12_valueTold_2 ?_
  refine g_if_ne C 13 dX12_valueTold_5 rfl (fun c2 => ?_) (fun c2 => ?_)
  · replace h := if_f h c2
    refine g_aload_n C (f := 0) dX12_valueTold_13 0 rfl ?_
    have F3 := fX12_7 hC T0.1 T0.2.1
    refine g_getR C (k := 7) (o := 5) okX12 (by decide) kf_RX12_27 dX12_valueTold_14 hC T0.1 T0.2.1 rfl rfl ?_
    refine g_aload_n C (f := 0) dX12_valueTold_17 0 rfl ?_
    refine g_getf C (k := 11) (kd := 0) okX12 (by decide) kf_RX12_248 dX12_valueTold_18 (rg_ hC T0.1) T0.2.1 rfl ?_
    obtain ⟨c4, h⟩ := ck_e h
    refine g_iald C 403 dX12_valueTold_21 (rg_ hC F3.1) F3.2.1 F3.2.2 c4 ?_
    obtain ⟨y5, ey5, h⟩ := lt_e h
    refine g_set C ey5 ?_
    refine g_istore_n C (f := 1) (ls' := [(1, (0, y5)), (0, (2, x0))]) dX12_valueTold_22 (by decide) rfl ?_
    refine g_aload_n C (f := 0) dX12_valueTold_23 1 rfl ?_
    obtain ⟨q6, eq6, h⟩ := bd_e h
    refine g_cV C [] (cX12_goesOn_ok l hC T0 eq6) okX12 T0.2.1 (rg_ hC T0.1) km_RX12_266 cv_X12_goesOn rfl (by decide) rfl rfl (Nat.le_of_ble_eq_true rfl) dX12_valueTold_24 ?_
    refine g_bipush C (n := 20) dX12_valueTold_27 (by decide) ?_
    refine g_iload_n C (f := 1) dX12_valueTold_29 0 rfl ?_
    refine g_iadd C dX12_valueTold_30 ?_
    cases h
    exact g_iret C dX12_valueTold_31 hr hlk
  · replace h := if_t h c2
    refine g_aload_n C (f := 0) dX12_valueTold_8 0 rfl ?_
    obtain ⟨q7, eq7, h⟩ := bd_e h
    refine g_cV C [] (cX12_registerTold_ok l hC T0 eq7) okX12 T0.2.1 (rg_ hC T0.1) km_RX12_324 cv_X12_registerTold rfl (by decide) rfl rfl (Nat.le_of_ble_eq_true rfl) dX12_valueTold_9 ?_
    cases h
    exact g_iret C dX12_valueTold_12 hr hlk
theorem dX12_wayTold_0 : decode cX12_wayTold 0 = .ok (.aload_n 0, 1) := by decide +kernel
theorem dX12_wayTold_1 : decode cX12_wayTold 1 = .ok (.getfield 82, 3) := by decide +kernel
theorem dX12_wayTold_4 : decode cX12_wayTold 4 = .ok (.iload_n 1, 1) := by decide +kernel
theorem dX12_wayTold_5 : decode cX12_wayTold 5 = .ok (.aload_n 0, 1) := by decide +kernel
theorem dX12_wayTold_6 : decode cX12_wayTold 6 = .ok (.getfield 248, 3) := by decide +kernel
theorem dX12_wayTold_9 : decode cX12_wayTold 9 = .ok (.iastore, 1) := by decide +kernel
theorem dX12_wayTold_10 : decode cX12_wayTold 10 = .ok (.aload_n 0, 1) := by decide +kernel
theorem dX12_wayTold_11 : decode cX12_wayTold 11 = .ok (.iconst 1, 1) := by decide +kernel
theorem dX12_wayTold_12 : decode cX12_wayTold 12 = .ok (.invokevirtual 308, 3) := by decide +kernel
theorem dX12_wayTold_15 : decode cX12_wayTold 15 = .ok (.return_, 1) := by decide +kernel
def fX12_wayTold (x0 x1 : Int) (v : V_) : Option (Int × V_) :=
  ck_ (0 ≤ x1 ∧ x1 < 32) (
  lt_ (up_ v (x0 + 22) x1 (v x0 11)) fun v3 =>
  bd_ (fX12_must x0 1 v3) fun q4 =>
  some (0, q4.2))
theorem cX12_wayTold_ok (l : Launch) {E : En_} {sz : Int} (hC : Cl_ E.2.2.2.2.2 sz) {x0 x1 : Int} {v : V_} {out : Int × V_} (T0 : (E.2.2.2.2.2 x0 ∧ ty_ x0 = 12 ∧ ln_ x0 = 0)) (h : fX12_wayTold x0 x1 v = some out) : Met l yX12_wayTold [.code yX12_wayTold cX12_wayTold 2 (none : Option FieldType)] (rm_ 3 62) (Pc_ E sz v [(2, x0), (0, x1)]) (Qc_ E sz 9 out.1 out.2) 0 0 (fun q => E.1 < q) := by
  refine met_G0 RX12 (by decide +kernel) rfl (Nat.le_of_ble_eq_true rfl) ?_
  intro p e s m args below meth c C hr hlk
  rw [fX12_wayTold] at h
  refine g_aload_n C (f := 0) dX12_wayTold_0 0 rfl ?_
  have F1 := fX12_35 hC T0.1 T0.2.1
  refine g_getR C (k := 35) (o := 22) okX12 (by decide) kf_RX12_82 dX12_wayTold_1 hC T0.1 T0.2.1 rfl rfl ?_
  refine g_iload_n C (f := 1) dX12_wayTold_4 1 rfl ?_
  refine g_aload_n C (f := 0) dX12_wayTold_5 0 rfl ?_
  refine g_getf C (k := 11) (kd := 0) okX12 (by decide) kf_RX12_248 dX12_wayTold_6 (rg_ hC T0.1) T0.2.1 rfl ?_
  obtain ⟨c2, h⟩ := ck_e h
  obtain ⟨v3, ev3, h⟩ := lt_e h
  refine g_iast C 32 dX12_wayTold_9 (rg_ hC F1.1) F1.2.1 F1.2.2 c2 v3 ev3 ?_
  refine g_aload_n C (f := 0) dX12_wayTold_10 0 rfl ?_
  refine g_iconst C (n := 1) dX12_wayTold_11 (by decide) ?_
  obtain ⟨q4, eq4, h⟩ := bd_e h
  refine g_cV C [(0, 1)] (cX12_must_ok l hC T0 eq4) okX12 T0.2.1 (rg_ hC T0.1) km_RX12_308 cv_X12_must rfl (by decide) rfl rfl (Nat.le_of_ble_eq_true rfl) dX12_wayTold_12 ?_
  cases h
  exact g_vret C dX12_wayTold_15 hr hlk
theorem dX12_tellEnd_0 : decode cX12_tellEnd 0 = .ok (.aload_n 0, 1) := by decide +kernel
theorem dX12_tellEnd_1 : decode cX12_tellEnd 1 = .ok (.getfield 73, 3) := by decide +kernel
theorem dX12_tellEnd_4 : decode cX12_tellEnd 4 = .ok (.iload_n 1, 1) := by decide +kernel
theorem dX12_tellEnd_5 : decode cX12_tellEnd 5 = .ok (.bipush 20, 2) := by decide +kernel
theorem dX12_tellEnd_7 : decode cX12_tellEnd 7 = .ok (.iastore, 1) := by decide +kernel
theorem dX12_tellEnd_8 : decode cX12_tellEnd 8 = .ok (.aload_n 0, 1) := by decide +kernel
theorem dX12_tellEnd_9 : decode cX12_tellEnd 9 = .ok (.getfield 76, 3) := by decide +kernel
theorem dX12_tellEnd_12 : decode cX12_tellEnd 12 = .ok (.iload_n 1, 1) := by decide +kernel
theorem dX12_tellEnd_13 : decode cX12_tellEnd 13 = .ok (.bipush 20, 2) := by decide +kernel
theorem dX12_tellEnd_15 : decode cX12_tellEnd 15 = .ok (.iastore, 1) := by decide +kernel
theorem dX12_tellEnd_16 : decode cX12_tellEnd 16 = .ok (.aload_n 0, 1) := by decide +kernel
theorem dX12_tellEnd_17 : decode cX12_tellEnd 17 = .ok (.getfield 79, 3) := by decide +kernel
theorem dX12_tellEnd_20 : decode cX12_tellEnd 20 = .ok (.iconst 2, 1) := by decide +kernel
theorem dX12_tellEnd_21 : decode cX12_tellEnd 21 = .ok (.iload_n 1, 1) := by decide +kernel
theorem dX12_tellEnd_22 : decode cX12_tellEnd 22 = .ok (.imul, 1) := by decide +kernel
theorem dX12_tellEnd_23 : decode cX12_tellEnd 23 = .ok (.bipush (-2), 2) := by decide +kernel
theorem dX12_tellEnd_25 : decode cX12_tellEnd 25 = .ok (.iastore, 1) := by decide +kernel
theorem dX12_tellEnd_26 : decode cX12_tellEnd 26 = .ok (.aload_n 0, 1) := by decide +kernel
theorem dX12_tellEnd_27 : decode cX12_tellEnd 27 = .ok (.getfield 79, 3) := by decide +kernel
theorem dX12_tellEnd_30 : decode cX12_tellEnd 30 = .ok (.iconst 2, 1) := by decide +kernel
theorem dX12_tellEnd_31 : decode cX12_tellEnd 31 = .ok (.iload_n 1, 1) := by decide +kernel
theorem dX12_tellEnd_32 : decode cX12_tellEnd 32 = .ok (.imul, 1) := by decide +kernel
theorem dX12_tellEnd_33 : decode cX12_tellEnd 33 = .ok (.iconst 1, 1) := by decide +kernel
theorem dX12_tellEnd_34 : decode cX12_tellEnd 34 = .ok (.iadd, 1) := by decide +kernel
theorem dX12_tellEnd_35 : decode cX12_tellEnd 35 = .ok (.bipush (-2), 2) := by decide +kernel
theorem dX12_tellEnd_37 : decode cX12_tellEnd 37 = .ok (.iastore, 1) := by decide +kernel
theorem dX12_tellEnd_38 : decode cX12_tellEnd 38 = .ok (.aload_n 0, 1) := by decide +kernel
theorem dX12_tellEnd_39 : decode cX12_tellEnd 39 = .ok (.bipush 30, 2) := by decide +kernel
theorem dX12_tellEnd_41 : decode cX12_tellEnd 41 = .ok (.invokevirtual 263, 3) := by decide +kernel
theorem dX12_tellEnd_44 : decode cX12_tellEnd 44 = .ok (.ifCond .eq 17, 3) := by decide +kernel
theorem dX12_tellEnd_47 : decode cX12_tellEnd 47 = .ok (.aload_n 0, 1) := by decide +kernel
theorem dX12_tellEnd_48 : decode cX12_tellEnd 48 = .ok (.invokevirtual 266, 3) := by decide +kernel
theorem dX12_tellEnd_51 : decode cX12_tellEnd 51 = .ok (.aload_n 0, 1) := by decide +kernel
theorem dX12_tellEnd_52 : decode cX12_tellEnd 52 = .ok (.getfield 70, 3) := by decide +kernel
theorem dX12_tellEnd_55 : decode cX12_tellEnd 55 = .ok (.iload_n 1, 1) := by decide +kernel
theorem dX12_tellEnd_56 : decode cX12_tellEnd 56 = .ok (.iconst 2, 1) := by decide +kernel
theorem dX12_tellEnd_57 : decode cX12_tellEnd 57 = .ok (.iastore, 1) := by decide +kernel
theorem dX12_tellEnd_58 : decode cX12_tellEnd 58 = .ok (.goto 100, 3) := by decide +kernel
theorem dX12_tellEnd_61 : decode cX12_tellEnd 61 = .ok (.aload_n 0, 1) := by decide +kernel
theorem dX12_tellEnd_62 : decode cX12_tellEnd 62 = .ok (.bipush 27, 2) := by decide +kernel
theorem dX12_tellEnd_64 : decode cX12_tellEnd 64 = .ok (.invokevirtual 263, 3) := by decide +kernel
theorem dX12_tellEnd_67 : decode cX12_tellEnd 67 = .ok (.ifCond .eq 24, 3) := by decide +kernel
theorem dX12_tellEnd_70 : decode cX12_tellEnd 70 = .ok (.aload_n 0, 1) := by decide +kernel
theorem dX12_tellEnd_71 : decode cX12_tellEnd 71 = .ok (.invokevirtual 266, 3) := by decide +kernel
theorem dX12_tellEnd_74 : decode cX12_tellEnd 74 = .ok (.aload_n 0, 1) := by decide +kernel
theorem dX12_tellEnd_75 : decode cX12_tellEnd 75 = .ok (.getfield 70, 3) := by decide +kernel
theorem dX12_tellEnd_78 : decode cX12_tellEnd 78 = .ok (.iload_n 1, 1) := by decide +kernel
theorem dX12_tellEnd_79 : decode cX12_tellEnd 79 = .ok (.iconst 0, 1) := by decide +kernel
theorem dX12_tellEnd_80 : decode cX12_tellEnd 80 = .ok (.iastore, 1) := by decide +kernel
theorem dX12_tellEnd_81 : decode cX12_tellEnd 81 = .ok (.aload_n 0, 1) := by decide +kernel
theorem dX12_tellEnd_82 : decode cX12_tellEnd 82 = .ok (.iconst 2, 1) := by decide +kernel
theorem dX12_tellEnd_83 : decode cX12_tellEnd 83 = .ok (.iload_n 1, 1) := by decide +kernel
theorem dX12_tellEnd_84 : decode cX12_tellEnd 84 = .ok (.imul, 1) := by decide +kernel
theorem dX12_tellEnd_85 : decode cX12_tellEnd 85 = .ok (.invokevirtual 331, 3) := by decide +kernel
theorem dX12_tellEnd_88 : decode cX12_tellEnd 88 = .ok (.goto 70, 3) := by decide +kernel
theorem dX12_tellEnd_91 : decode cX12_tellEnd 91 = .ok (.aload_n 0, 1) := by decide +kernel
theorem dX12_tellEnd_92 : decode cX12_tellEnd 92 = .ok (.bipush 28, 2) := by decide +kernel
theorem dX12_tellEnd_94 : decode cX12_tellEnd 94 = .ok (.invokevirtual 308, 3) := by decide +kernel
theorem dX12_tellEnd_97 : decode cX12_tellEnd 97 = .ok (.aload_n 0, 1) := by decide +kernel
theorem dX12_tellEnd_98 : decode cX12_tellEnd 98 = .ok (.getfield 70, 3) := by decide +kernel
theorem dX12_tellEnd_101 : decode cX12_tellEnd 101 = .ok (.iload_n 1, 1) := by decide +kernel
theorem dX12_tellEnd_102 : decode cX12_tellEnd 102 = .ok (.iconst 1, 1) := by decide +kernel
theorem dX12_tellEnd_103 : decode cX12_tellEnd 103 = .ok (.iastore, 1) := by decide +kernel
theorem dX12_tellEnd_104 : decode cX12_tellEnd 104 = .ok (.aload_n 0, 1) := by decide +kernel
theorem dX12_tellEnd_105 : decode cX12_tellEnd 105 = .ok (.getfield 73, 3) := by decide +kernel
theorem dX12_tellEnd_108 : decode cX12_tellEnd 108 = .ok (.iload_n 1, 1) := by decide +kernel
theorem dX12_tellEnd_109 : decode cX12_tellEnd 109 = .ok (.aload_n 0, 1) := by decide +kernel
theorem dX12_tellEnd_110 : decode cX12_tellEnd 110 = .ok (.invokevirtual 324, 3) := by decide +kernel
theorem dX12_tellEnd_113 : decode cX12_tellEnd 113 = .ok (.iastore, 1) := by decide +kernel
theorem dX12_tellEnd_114 : decode cX12_tellEnd 114 = .ok (.aload_n 0, 1) := by decide +kernel
theorem dX12_tellEnd_115 : decode cX12_tellEnd 115 = .ok (.bipush 13, 2) := by decide +kernel
theorem dX12_tellEnd_117 : decode cX12_tellEnd 117 = .ok (.invokevirtual 308, 3) := by decide +kernel
theorem dX12_tellEnd_120 : decode cX12_tellEnd 120 = .ok (.aload_n 0, 1) := by decide +kernel
theorem dX12_tellEnd_121 : decode cX12_tellEnd 121 = .ok (.getfield 76, 3) := by decide +kernel
theorem dX12_tellEnd_124 : decode cX12_tellEnd 124 = .ok (.iload_n 1, 1) := by decide +kernel
theorem dX12_tellEnd_125 : decode cX12_tellEnd 125 = .ok (.aload_n 0, 1) := by decide +kernel
theorem dX12_tellEnd_126 : decode cX12_tellEnd 126 = .ok (.invokevirtual 328, 3) := by decide +kernel
theorem dX12_tellEnd_129 : decode cX12_tellEnd 129 = .ok (.iastore, 1) := by decide +kernel
theorem dX12_tellEnd_130 : decode cX12_tellEnd 130 = .ok (.aload_n 0, 1) := by decide +kernel
theorem dX12_tellEnd_131 : decode cX12_tellEnd 131 = .ok (.bipush 27, 2) := by decide +kernel
theorem dX12_tellEnd_133 : decode cX12_tellEnd 133 = .ok (.invokevirtual 308, 3) := by decide +kernel
theorem dX12_tellEnd_136 : decode cX12_tellEnd 136 = .ok (.aload_n 0, 1) := by decide +kernel
theorem dX12_tellEnd_137 : decode cX12_tellEnd 137 = .ok (.iconst 2, 1) := by decide +kernel
theorem dX12_tellEnd_138 : decode cX12_tellEnd 138 = .ok (.iload_n 1, 1) := by decide +kernel
theorem dX12_tellEnd_139 : decode cX12_tellEnd 139 = .ok (.imul, 1) := by decide +kernel
theorem dX12_tellEnd_140 : decode cX12_tellEnd 140 = .ok (.invokevirtual 331, 3) := by decide +kernel
theorem dX12_tellEnd_143 : decode cX12_tellEnd 143 = .ok (.aload_n 0, 1) := by decide +kernel
theorem dX12_tellEnd_144 : decode cX12_tellEnd 144 = .ok (.bipush 29, 2) := by decide +kernel
theorem dX12_tellEnd_146 : decode cX12_tellEnd 146 = .ok (.invokevirtual 308, 3) := by decide +kernel
theorem dX12_tellEnd_149 : decode cX12_tellEnd 149 = .ok (.aload_n 0, 1) := by decide +kernel
theorem dX12_tellEnd_150 : decode cX12_tellEnd 150 = .ok (.iconst 2, 1) := by decide +kernel
theorem dX12_tellEnd_151 : decode cX12_tellEnd 151 = .ok (.iload_n 1, 1) := by decide +kernel
theorem dX12_tellEnd_152 : decode cX12_tellEnd 152 = .ok (.imul, 1) := by decide +kernel
theorem dX12_tellEnd_153 : decode cX12_tellEnd 153 = .ok (.iconst 1, 1) := by decide +kernel
theorem dX12_tellEnd_154 : decode cX12_tellEnd 154 = .ok (.iadd, 1) := by decide +kernel
theorem dX12_tellEnd_155 : decode cX12_tellEnd 155 = .ok (.invokevirtual 331, 3) := by decide +kernel
theorem dX12_tellEnd_158 : decode cX12_tellEnd 158 = .ok (.aload_n 0, 1) := by decide +kernel
theorem dX12_tellEnd_159 : decode cX12_tellEnd 159 = .ok (.iconst 4, 1) := by decide +kernel
theorem dX12_tellEnd_160 : decode cX12_tellEnd 160 = .ok (.invokevirtual 308, 3) := by decide +kernel
theorem dX12_tellEnd_163 : decode cX12_tellEnd 163 = .ok (.return_, 1) := by decide +kernel
def fX12_tellEnd (x0 x1 : Int) (v : V_) : Option (Int × V_) :=
  ck_ (0 ≤ x1 ∧ x1 < 16) (
  lt_ (up_ v (x0 + 19) x1 20) fun v3 =>
  ck_ (0 ≤ x1 ∧ x1 < 16) (
  lt_ (up_ v3 (x0 + 20) x1 20) fun v6 =>
  ck_ (0 ≤ wr_ (2 * x1) ∧ wr_ (2 * x1) < 32) (
  lt_ (up_ v6 (x0 + 21) (wr_ (2 * x1)) (-2)) fun v9 =>
  ck_ (0 ≤ wr_ ((wr_ (2 * x1)) + 1) ∧ wr_ ((wr_ (2 * x1)) + 1) < 32) (
  lt_ (up_ v9 (x0 + 21) (wr_ ((wr_ (2 * x1)) + 1)) (-2)) fun v12 =>
  bd_ (fX12_is x0 30 v12) fun q13 =>
  if q13.1 = 0 then (
    bd_ (fX12_is x0 27 q13.2) fun q15 =>
    if q15.1 = 0 then (
      bd_ (fX12_must x0 28 q15.2) fun q17 =>
      ck_ (0 ≤ x1 ∧ x1 < 16) (
      lt_ (up_ q17.2 (x0 + 18) x1 1) fun v20 =>
      bd_ (fX12_registerTold x0 v20) fun q22 =>
      ck_ (0 ≤ x1 ∧ x1 < 16) (
      lt_ (up_ q22.2 (x0 + 19) x1 q22.1) fun v24 =>
      bd_ (fX12_must x0 13 v24) fun q25 =>
      bd_ (fX12_valueTold x0 q25.2) fun q27 =>
      ck_ (0 ≤ x1 ∧ x1 < 16) (
      lt_ (up_ q27.2 (x0 + 20) x1 q27.1) fun v29 =>
      bd_ (fX12_must x0 27 v29) fun q30 =>
      bd_ (fX12_wayTold x0 (wr_ (2 * x1)) q30.2) fun q31 =>
      bd_ (fX12_must x0 29 q31.2) fun q32 =>
      bd_ (fX12_wayTold x0 (wr_ ((wr_ (2 * x1)) + 1)) q32.2) fun q33 =>
      bd_ (fX12_must x0 4 q33.2) fun q34 =>
      some (0, q34.2)))))
    else (
      bd_ (fX12_goesOn x0 q15.2) fun q35 =>
      ck_ (0 ≤ x1 ∧ x1 < 16) (
      lt_ (up_ q35.2 (x0 + 18) x1 0) fun v38 =>
      bd_ (fX12_wayTold x0 (wr_ (2 * x1)) v38) fun q39 =>
      bd_ (fX12_must x0 4 q39.2) fun q40 =>
      some (0, q40.2))))
  else (
    bd_ (fX12_goesOn x0 q13.2) fun q41 =>
    ck_ (0 ≤ x1 ∧ x1 < 16) (
    lt_ (up_ q41.2 (x0 + 18) x1 2) fun v44 =>
    bd_ (fX12_must x0 4 v44) fun q45 =>
    some (0, q45.2)))))))
theorem cX12_tellEnd_ok (l : Launch) {E : En_} {sz : Int} (hC : Cl_ E.2.2.2.2.2 sz) {x0 x1 : Int} {v : V_} {out : Int × V_} (T0 : (E.2.2.2.2.2 x0 ∧ ty_ x0 = 12 ∧ ln_ x0 = 0)) (h : fX12_tellEnd x0 x1 v = some out) : Met l yX12_tellEnd [.code yX12_tellEnd cX12_tellEnd 2 (none : Option FieldType)] (rm_ 4 83) (Pc_ E sz v [(2, x0), (0, x1)]) (Qc_ E sz 9 out.1 out.2) 0 0 (fun q => E.1 < q) := by
  refine met_G0 RX12 (by decide +kernel) rfl (Nat.le_of_ble_eq_true rfl) ?_
  intro p e s m args below meth c C hr hlk
  rw [fX12_tellEnd] at h
  refine g_aload_n C (f := 0) dX12_tellEnd_0 0 rfl ?_
  have F1 := fX12_32 hC T0.1 T0.2.1
  refine g_getR C (k := 32) (o := 19) okX12 (by decide) kf_RX12_73 dX12_tellEnd_1 hC T0.1 T0.2.1 rfl rfl ?_
  refine g_iload_n C (f := 1) dX12_tellEnd_4 1 rfl ?_
  refine g_bipush C (n := 20) dX12_tellEnd_5 (by decide) ?_
  obtain ⟨c2, h⟩ := ck_e h
  obtain ⟨v3, ev3, h⟩ := lt_e h
  refine g_iast C 16 dX12_tellEnd_7 (rg_ hC F1.1) F1.2.1 F1.2.2 c2 v3 ev3 ?_
  refine g_aload_n C (f := 0) dX12_tellEnd_8 0 rfl ?_
  have F4 := fX12_33 hC T0.1 T0.2.1
  refine g_getR C (k := 33) (o := 20) okX12 (by decide) kf_RX12_76 dX12_tellEnd_9 hC T0.1 T0.2.1 rfl rfl ?_
  refine g_iload_n C (f := 1) dX12_tellEnd_12 1 rfl ?_
  refine g_bipush C (n := 20) dX12_tellEnd_13 (by decide) ?_
  obtain ⟨c5, h⟩ := ck_e h
  obtain ⟨v6, ev6, h⟩ := lt_e h
  refine g_iast C 16 dX12_tellEnd_15 (rg_ hC F4.1) F4.2.1 F4.2.2 c5 v6 ev6 ?_
  refine g_aload_n C (f := 0) dX12_tellEnd_16 0 rfl ?_
  have F7 := fX12_34 hC T0.1 T0.2.1
  refine g_getR C (k := 34) (o := 21) okX12 (by decide) kf_RX12_79 dX12_tellEnd_17 hC T0.1 T0.2.1 rfl rfl ?_
  refine g_iconst C (n := 2) dX12_tellEnd_20 (by decide) ?_
  refine g_iload_n C (f := 1) dX12_tellEnd_21 1 rfl ?_
  refine g_imul C dX12_tellEnd_22 ?_
  refine g_bipush C (n := (-2)) dX12_tellEnd_23 (by decide) ?_
  obtain ⟨c8, h⟩ := ck_e h
  obtain ⟨v9, ev9, h⟩ := lt_e h
  refine g_iast C 32 dX12_tellEnd_25 (rg_ hC F7.1) F7.2.1 F7.2.2 c8 v9 ev9 ?_
  refine g_aload_n C (f := 0) dX12_tellEnd_26 0 rfl ?_
  have F10 := fX12_34 hC T0.1 T0.2.1
  refine g_getR C (k := 34) (o := 21) okX12 (by decide) kf_RX12_79 dX12_tellEnd_27 hC T0.1 T0.2.1 rfl rfl ?_
  refine g_iconst C (n := 2) dX12_tellEnd_30 (by decide) ?_
  refine g_iload_n C (f := 1) dX12_tellEnd_31 1 rfl ?_
  refine g_imul C dX12_tellEnd_32 ?_
  refine g_iconst C (n := 1) dX12_tellEnd_33 (by decide) ?_
  refine g_iadd C dX12_tellEnd_34 ?_
  refine g_bipush C (n := (-2)) dX12_tellEnd_35 (by decide) ?_
  obtain ⟨c11, h⟩ := ck_e h
  obtain ⟨v12, ev12, h⟩ := lt_e h
  refine g_iast C 32 dX12_tellEnd_37 (rg_ hC F10.1) F10.2.1 F10.2.2 c11 v12 ev12 ?_
  refine g_aload_n C (f := 0) dX12_tellEnd_38 0 rfl ?_
  refine g_bipush C (n := 30) dX12_tellEnd_39 (by decide) ?_
  obtain ⟨q13, eq13, h⟩ := bd_e h
  refine g_cV C [(0, 30)] (cX12_is_ok l hC T0 eq13) okX12 T0.2.1 (rg_ hC T0.1) km_RX12_263 cv_X12_is rfl (by decide) rfl rfl (Nat.le_of_ble_eq_true rfl) dX12_tellEnd_41 ?_
  refine g_if_eq C 61 dX12_tellEnd_44 rfl (fun c14 => ?_) (fun c14 => ?_)
  · replace h := if_t h c14
    refine g_aload_n C (f := 0) dX12_tellEnd_61 0 rfl ?_
    refine g_bipush C (n := 27) dX12_tellEnd_62 (by decide) ?_
    obtain ⟨q15, eq15, h⟩ := bd_e h
    refine g_cV C [(0, 27)] (cX12_is_ok l hC T0 eq15) okX12 T0.2.1 (rg_ hC T0.1) km_RX12_263 cv_X12_is rfl (by decide) rfl rfl (Nat.le_of_ble_eq_true rfl) dX12_tellEnd_64 ?_
    refine g_if_eq C 91 dX12_tellEnd_67 rfl (fun c16 => ?_) (fun c16 => ?_)
    · replace h := if_t h c16
      refine g_aload_n C (f := 0) dX12_tellEnd_91 0 rfl ?_
      refine g_bipush C (n := 28) dX12_tellEnd_92 (by decide) ?_
      obtain ⟨q17, eq17, h⟩ := bd_e h
      refine g_cV C [(0, 28)] (cX12_must_ok l hC T0 eq17) okX12 T0.2.1 (rg_ hC T0.1) km_RX12_308 cv_X12_must rfl (by decide) rfl rfl (Nat.le_of_ble_eq_true rfl) dX12_tellEnd_94 ?_
      refine g_aload_n C (f := 0) dX12_tellEnd_97 0 rfl ?_
      have F18 := fX12_31 hC T0.1 T0.2.1
      refine g_getR C (k := 31) (o := 18) okX12 (by decide) kf_RX12_70 dX12_tellEnd_98 hC T0.1 T0.2.1 rfl rfl ?_
      refine g_iload_n C (f := 1) dX12_tellEnd_101 1 rfl ?_
      refine g_iconst C (n := 1) dX12_tellEnd_102 (by decide) ?_
      obtain ⟨c19, h⟩ := ck_e h
      obtain ⟨v20, ev20, h⟩ := lt_e h
      refine g_iast C 16 dX12_tellEnd_103 (rg_ hC F18.1) F18.2.1 F18.2.2 c19 v20 ev20 ?_
      refine g_aload_n C (f := 0) dX12_tellEnd_104 0 rfl ?_
      have F21 := fX12_32 hC T0.1 T0.2.1
      refine g_getR C (k := 32) (o := 19) okX12 (by decide) kf_RX12_73 dX12_tellEnd_105 hC T0.1 T0.2.1 rfl rfl ?_
      refine g_iload_n C (f := 1) dX12_tellEnd_108 1 rfl ?_
      refine g_aload_n C (f := 0) dX12_tellEnd_109 0 rfl ?_
      obtain ⟨q22, eq22, h⟩ := bd_e h
      refine g_cV C [] (cX12_registerTold_ok l hC T0 eq22) okX12 T0.2.1 (rg_ hC T0.1) km_RX12_324 cv_X12_registerTold rfl (by decide) rfl rfl (Nat.le_of_ble_eq_true rfl) dX12_tellEnd_110 ?_
      obtain ⟨c23, h⟩ := ck_e h
      obtain ⟨v24, ev24, h⟩ := lt_e h
      refine g_iast C 16 dX12_tellEnd_113 (rg_ hC F21.1) F21.2.1 F21.2.2 c23 v24 ev24 ?_
      refine g_aload_n C (f := 0) dX12_tellEnd_114 0 rfl ?_
      refine g_bipush C (n := 13) dX12_tellEnd_115 (by decide) ?_
      obtain ⟨q25, eq25, h⟩ := bd_e h
      refine g_cV C [(0, 13)] (cX12_must_ok l hC T0 eq25) okX12 T0.2.1 (rg_ hC T0.1) km_RX12_308 cv_X12_must rfl (by decide) rfl rfl (Nat.le_of_ble_eq_true rfl) dX12_tellEnd_117 ?_
      refine g_aload_n C (f := 0) dX12_tellEnd_120 0 rfl ?_
      have F26 := fX12_33 hC T0.1 T0.2.1
      refine g_getR C (k := 33) (o := 20) okX12 (by decide) kf_RX12_76 dX12_tellEnd_121 hC T0.1 T0.2.1 rfl rfl ?_
      refine g_iload_n C (f := 1) dX12_tellEnd_124 1 rfl ?_
      refine g_aload_n C (f := 0) dX12_tellEnd_125 0 rfl ?_
      obtain ⟨q27, eq27, h⟩ := bd_e h
      refine g_cV C [] (cX12_valueTold_ok l hC T0 eq27) okX12 T0.2.1 (rg_ hC T0.1) km_RX12_328 cv_X12_valueTold rfl (by decide) rfl rfl (Nat.le_of_ble_eq_true rfl) dX12_tellEnd_126 ?_
      obtain ⟨c28, h⟩ := ck_e h
      obtain ⟨v29, ev29, h⟩ := lt_e h
      refine g_iast C 16 dX12_tellEnd_129 (rg_ hC F26.1) F26.2.1 F26.2.2 c28 v29 ev29 ?_
      refine g_aload_n C (f := 0) dX12_tellEnd_130 0 rfl ?_
      refine g_bipush C (n := 27) dX12_tellEnd_131 (by decide) ?_
      obtain ⟨q30, eq30, h⟩ := bd_e h
      refine g_cV C [(0, 27)] (cX12_must_ok l hC T0 eq30) okX12 T0.2.1 (rg_ hC T0.1) km_RX12_308 cv_X12_must rfl (by decide) rfl rfl (Nat.le_of_ble_eq_true rfl) dX12_tellEnd_133 ?_
      refine g_aload_n C (f := 0) dX12_tellEnd_136 0 rfl ?_
      refine g_iconst C (n := 2) dX12_tellEnd_137 (by decide) ?_
      refine g_iload_n C (f := 1) dX12_tellEnd_138 1 rfl ?_
      refine g_imul C dX12_tellEnd_139 ?_
      obtain ⟨q31, eq31, h⟩ := bd_e h
      refine g_cV C [(0, wr_ (2 * x1))] (cX12_wayTold_ok l hC T0 eq31) okX12 T0.2.1 (rg_ hC T0.1) km_RX12_331 cv_X12_wayTold rfl (by decide) rfl rfl (Nat.le_of_ble_eq_true rfl) dX12_tellEnd_140 ?_
      refine g_aload_n C (f := 0) dX12_tellEnd_143 0 rfl ?_
      refine g_bipush C (n := 29) dX12_tellEnd_144 (by decide) ?_
      obtain ⟨q32, eq32, h⟩ := bd_e h
      refine g_cV C [(0, 29)] (cX12_must_ok l hC T0 eq32) okX12 T0.2.1 (rg_ hC T0.1) km_RX12_308 cv_X12_must rfl (by decide) rfl rfl (Nat.le_of_ble_eq_true rfl) dX12_tellEnd_146 ?_
      refine g_aload_n C (f := 0) dX12_tellEnd_149 0 rfl ?_
      refine g_iconst C (n := 2) dX12_tellEnd_150 (by decide) ?_
      refine g_iload_n C (f := 1) dX12_tellEnd_151 1 rfl ?_
      refine g_imul C dX12_tellEnd_152 ?_
      refine g_iconst C (n := 1) dX12_tellEnd_153 (by decide) ?_
      refine g_iadd C dX12_tellEnd_154 ?_
      obtain ⟨q33, eq33, h⟩ := bd_e h
      refine g_cV C [(0, wr_ ((wr_ (2 * x1)) + 1))] (cX12_wayTold_ok l hC T0 eq33) okX12 T0.2.1 (rg_ hC T0.1) km_RX12_331 cv_X12_wayTold rfl (by decide) rfl rfl (Nat.le_of_ble_eq_true rfl) dX12_tellEnd_155 ?_
      refine g_aload_n C (f := 0) dX12_tellEnd_158 0 rfl ?_
      refine g_iconst C (n := 4) dX12_tellEnd_159 (by decide) ?_
      obtain ⟨q34, eq34, h⟩ := bd_e h
      refine g_cV C [(0, 4)] (cX12_must_ok l hC T0 eq34) okX12 T0.2.1 (rg_ hC T0.1) km_RX12_308 cv_X12_must rfl (by decide) rfl rfl (Nat.le_of_ble_eq_true rfl) dX12_tellEnd_160 ?_
      cases h
      exact g_vret C dX12_tellEnd_163 hr hlk
    · replace h := if_f h c16
      refine g_aload_n C (f := 0) dX12_tellEnd_70 0 rfl ?_
      obtain ⟨q35, eq35, h⟩ := bd_e h
      refine g_cV C [] (cX12_goesOn_ok l hC T0 eq35) okX12 T0.2.1 (rg_ hC T0.1) km_RX12_266 cv_X12_goesOn rfl (by decide) rfl rfl (Nat.le_of_ble_eq_true rfl) dX12_tellEnd_71 ?_
      refine g_aload_n C (f := 0) dX12_tellEnd_74 0 rfl ?_
      have F36 := fX12_31 hC T0.1 T0.2.1
      refine g_getR C (k := 31) (o := 18) okX12 (by decide) kf_RX12_70 dX12_tellEnd_75 hC T0.1 T0.2.1 rfl rfl ?_
      refine g_iload_n C (f := 1) dX12_tellEnd_78 1 rfl ?_
      refine g_iconst C (n := 0) dX12_tellEnd_79 (by decide) ?_
      obtain ⟨c37, h⟩ := ck_e h
      obtain ⟨v38, ev38, h⟩ := lt_e h
      refine g_iast C 16 dX12_tellEnd_80 (rg_ hC F36.1) F36.2.1 F36.2.2 c37 v38 ev38 ?_
      refine g_aload_n C (f := 0) dX12_tellEnd_81 0 rfl ?_
      refine g_iconst C (n := 2) dX12_tellEnd_82 (by decide) ?_
      refine g_iload_n C (f := 1) dX12_tellEnd_83 1 rfl ?_
      refine g_imul C dX12_tellEnd_84 ?_
      obtain ⟨q39, eq39, h⟩ := bd_e h
      refine g_cV C [(0, wr_ (2 * x1))] (cX12_wayTold_ok l hC T0 eq39) okX12 T0.2.1 (rg_ hC T0.1) km_RX12_331 cv_X12_wayTold rfl (by decide) rfl rfl (Nat.le_of_ble_eq_true rfl) dX12_tellEnd_85 ?_
      refine g_goto C 158 dX12_tellEnd_88 rfl ?_
      refine g_aload_n C (f := 0) dX12_tellEnd_158 0 rfl ?_
      refine g_iconst C (n := 4) dX12_tellEnd_159 (by decide) ?_
      obtain ⟨q40, eq40, h⟩ := bd_e h
      refine g_cV C [(0, 4)] (cX12_must_ok l hC T0 eq40) okX12 T0.2.1 (rg_ hC T0.1) km_RX12_308 cv_X12_must rfl (by decide) rfl rfl (Nat.le_of_ble_eq_true rfl) dX12_tellEnd_160 ?_
      cases h
      exact g_vret C dX12_tellEnd_163 hr hlk
  · replace h := if_f h c14
    refine g_aload_n C (f := 0) dX12_tellEnd_47 0 rfl ?_
    obtain ⟨q41, eq41, h⟩ := bd_e h
    refine g_cV C [] (cX12_goesOn_ok l hC T0 eq41) okX12 T0.2.1 (rg_ hC T0.1) km_RX12_266 cv_X12_goesOn rfl (by decide) rfl rfl (Nat.le_of_ble_eq_true rfl) dX12_tellEnd_48 ?_
    refine g_aload_n C (f := 0) dX12_tellEnd_51 0 rfl ?_
    have F42 := fX12_31 hC T0.1 T0.2.1
    refine g_getR C (k := 31) (o := 18) okX12 (by decide) kf_RX12_70 dX12_tellEnd_52 hC T0.1 T0.2.1 rfl rfl ?_
    refine g_iload_n C (f := 1) dX12_tellEnd_55 1 rfl ?_
    refine g_iconst C (n := 2) dX12_tellEnd_56 (by decide) ?_
    obtain ⟨c43, h⟩ := ck_e h
    obtain ⟨v44, ev44, h⟩ := lt_e h
    refine g_iast C 16 dX12_tellEnd_57 (rg_ hC F42.1) F42.2.1 F42.2.2 c43 v44 ev44 ?_
    refine g_goto C 158 dX12_tellEnd_58 rfl ?_
    refine g_aload_n C (f := 0) dX12_tellEnd_158 0 rfl ?_
    refine g_iconst C (n := 4) dX12_tellEnd_159 (by decide) ?_
    obtain ⟨q45, eq45, h⟩ := bd_e h
    refine g_cV C [(0, 4)] (cX12_must_ok l hC T0 eq45) okX12 T0.2.1 (rg_ hC T0.1) km_RX12_308 cv_X12_must rfl (by decide) rfl rfl (Nat.le_of_ble_eq_true rfl) dX12_tellEnd_160 ?_
    cases h
    exact g_vret C dX12_tellEnd_163 hr hlk
