theorem dX11_knownPlan_0 : decode cX11_knownPlan 0 = .ok (.aload_n 0, 1) := by decide +kernel
theorem dX11_knownPlan_1 : decode cX11_knownPlan 1 = .ok (.getfield 370, 3) := by decide +kernel
theorem dX11_knownPlan_4 : decode cX11_knownPlan 4 = .ok (.ifCond .ne 49, 3) := by decide +kernel
theorem dX11_knownPlan_7 : decode cX11_knownPlan 7 = .ok (.aload_n 0, 1) := by decide +kernel
theorem dX11_knownPlan_8 : decode cX11_knownPlan 8 = .ok (.getfield 51, 3) := by decide +kernel
theorem dX11_knownPlan_11 : decode cX11_knownPlan 11 = .ok (.aload_n 0, 1) := by decide +kernel
theorem dX11_knownPlan_12 : decode cX11_knownPlan 12 = .ok (.getfield 27, 3) := by decide +kernel
theorem dX11_knownPlan_15 : decode cX11_knownPlan 15 = .ok (.aload_n 0, 1) := by decide +kernel
theorem dX11_knownPlan_16 : decode cX11_knownPlan 16 = .ok (.getfield 37, 3) := by decide +kernel
theorem dX11_knownPlan_19 : decode cX11_knownPlan 19 = .ok (.invokevirtual 373, 3) := by decide +kernel
theorem dX11_knownPlan_22 : decode cX11_knownPlan 22 = .ok (.aload_n 0, 1) := by decide +kernel
theorem dX11_knownPlan_23 : decode cX11_knownPlan 23 = .ok (.getfield 51, 3) := by decide +kernel
theorem dX11_knownPlan_26 : decode cX11_knownPlan 26 = .ok (.aload_n 0, 1) := by decide +kernel
theorem dX11_knownPlan_27 : decode cX11_knownPlan 27 = .ok (.getfield 27, 3) := by decide +kernel
theorem dX11_knownPlan_30 : decode cX11_knownPlan 30 = .ok (.invokevirtual 377, 3) := by decide +kernel
theorem dX11_knownPlan_33 : decode cX11_knownPlan 33 = .ok (.aload_n 0, 1) := by decide +kernel
theorem dX11_knownPlan_34 : decode cX11_knownPlan 34 = .ok (.getfield 51, 3) := by decide +kernel
theorem dX11_knownPlan_37 : decode cX11_knownPlan 37 = .ok (.aload_n 0, 1) := by decide +kernel
theorem dX11_knownPlan_38 : decode cX11_knownPlan 38 = .ok (.getfield 27, 3) := by decide +kernel
theorem dX11_knownPlan_41 : decode cX11_knownPlan 41 = .ok (.aload_n 0, 1) := by decide +kernel
theorem dX11_knownPlan_42 : decode cX11_knownPlan 42 = .ok (.getfield 37, 3) := by decide +kernel
theorem dX11_knownPlan_45 : decode cX11_knownPlan 45 = .ok (.invokevirtual 380, 3) := by decide +kernel
theorem dX11_knownPlan_48 : decode cX11_knownPlan 48 = .ok (.aload_n 0, 1) := by decide +kernel
theorem dX11_knownPlan_49 : decode cX11_knownPlan 49 = .ok (.iconst 1, 1) := by decide +kernel
theorem dX11_knownPlan_50 : decode cX11_knownPlan 50 = .ok (.putfield 370, 3) := by decide +kernel
theorem dX11_knownPlan_53 : decode cX11_knownPlan 53 = .ok (.aload_n 0, 1) := by decide +kernel
theorem dX11_knownPlan_54 : decode cX11_knownPlan 54 = .ok (.getfield 51, 3) := by decide +kernel
theorem dX11_knownPlan_57 : decode cX11_knownPlan 57 = .ok (.areturn, 1) := by decide +kernel
def fX11_knownPlan (x0 : Int) (v : V_) : Option (Int × V_) :=
  if (v x0 11) = 0 then (
    ck_ (v x0 4 = PA_ ∨ v x0 4 = PB_) (
    bd_ (fX4_chooseTraces (x0 + 188) (v x0 4) (x0 + 139) v) fun q7 =>
    ck_ (q7.2 x0 4 = PA_ ∨ q7.2 x0 4 = PB_) (
    bd_ (fX4_findJoined (x0 + 188) (q7.2 x0 4) q7.2) fun q11 =>
    ck_ (q11.2 x0 4 = PA_ ∨ q11.2 x0 4 = PB_) (
    bd_ (fX4_layTraces (x0 + 188) (q11.2 x0 4) (x0 + 139) q11.2) fun q16 =>
    lt_ (up_ q16.2 x0 11 1) fun v17 =>
    some (x0 + 188, v17)))))
  else (
    some (x0 + 188, v))
theorem cX11_knownPlan_ok (l : Launch) {E : En_} {sz : Int} (hC : Cl_ E.2.2.2.2.2 sz) (hG : Pg_ E.2.2.2.2.2) {x0 : Int} {v : V_} {out : Int × V_} (T0 : (E.2.2.2.2.2 x0 ∧ ty_ x0 = 11 ∧ ln_ x0 = 0)) (h : fX11_knownPlan x0 v = some out) : Met l yX11_knownPlan [.code yX11_knownPlan cX11_knownPlan 1 (some (FieldType.object "TraceDesk$Plan"))] (rm_ 5 123) (Pc_ E sz v [(2, x0)]) (Qc_ E sz 2 out.1 out.2) 0 0 (fun q => E.1 < q) := by
  refine met_G0 RX11 (by decide +kernel) rfl (Nat.le_of_ble_eq_true rfl) ?_
  intro p e s m args below meth c C hr hlk
  rw [fX11_knownPlan] at h
  refine g_aload_n C (f := 0) dX11_knownPlan_0 0 rfl ?_
  refine g_getf C (k := 11) (kd := 0) okX11 (by decide) kf_RX11_370 dX11_knownPlan_1 (rg_ hC T0.1) T0.2.1 rfl ?_
  refine g_if_ne C 53 dX11_knownPlan_4 rfl (fun c1 => ?_) (fun c1 => ?_)
  · replace h := if_f h c1
    refine g_aload_n C (f := 0) dX11_knownPlan_53 0 rfl ?_
    have F2 := fX11_8 hC T0.1 T0.2.1
    refine g_getR C (k := 8) (o := 188) okX11 (by decide) kf_RX11_51 dX11_knownPlan_54 hC T0.1 T0.2.1 rfl rfl ?_
    cases h
    exact g_aret C dX11_knownPlan_57 hr (Or.inl ⟨_, rfl⟩) hlk
  · replace h := if_t h c1
    refine g_aload_n C (f := 0) dX11_knownPlan_7 0 rfl ?_
    have F3 := fX11_8 hC T0.1 T0.2.1
    refine g_getR C (k := 8) (o := 188) okX11 (by decide) kf_RX11_51 dX11_knownPlan_8 hC T0.1 T0.2.1 rfl rfl ?_
    refine g_aload_n C (f := 0) dX11_knownPlan_11 0 rfl ?_
    obtain ⟨c4, h⟩ := ck_e h
    refine g_getf C (k := 4) (kd := 2) okX11 (by decide) kf_RX11_27 dX11_knownPlan_12 (rg_ hC T0.1) T0.2.1 rfl ?_
    have F5 := pgF_ hG c4
    refine g_aload_n C (f := 0) dX11_knownPlan_15 0 rfl ?_
    have F6 := fX11_6 hC T0.1 T0.2.1
    refine g_getR C (k := 6) (o := 139) okX11 (by decide) kf_RX11_37 dX11_knownPlan_16 hC T0.1 T0.2.1 rfl rfl ?_
    obtain ⟨q7, eq7, h⟩ := bd_e h
    refine g_cV C [(2, v x0 4), (2, x0 + 139)] (cX4_chooseTraces_ok l hC F3 F5 F6 eq7) okX4 F3.2.1 (rg_ hC F3.1) km_RX11_373 cv_X4_chooseTraces rfl (by decide) rfl rfl (Nat.le_of_ble_eq_true rfl) dX11_knownPlan_19 ?_
    refine g_aload_n C (f := 0) dX11_knownPlan_22 0 rfl ?_
    have F8 := fX11_8 hC T0.1 T0.2.1
    refine g_getR C (k := 8) (o := 188) okX11 (by decide) kf_RX11_51 dX11_knownPlan_23 hC T0.1 T0.2.1 rfl rfl ?_
    refine g_aload_n C (f := 0) dX11_knownPlan_26 0 rfl ?_
    obtain ⟨c9, h⟩ := ck_e h
    refine g_getf C (k := 4) (kd := 2) okX11 (by decide) kf_RX11_27 dX11_knownPlan_27 (rg_ hC T0.1) T0.2.1 rfl ?_
    have F10 := pgF_ hG c9
    obtain ⟨q11, eq11, h⟩ := bd_e h
    refine g_cV C [(2, q7.2 x0 4)] (cX4_findJoined_ok l hC F8 F10 eq11) okX4 F8.2.1 (rg_ hC F8.1) km_RX11_377 cv_X4_findJoined rfl (by decide) rfl rfl (Nat.le_of_ble_eq_true rfl) dX11_knownPlan_30 ?_
    refine g_aload_n C (f := 0) dX11_knownPlan_33 0 rfl ?_
    have F12 := fX11_8 hC T0.1 T0.2.1
    refine g_getR C (k := 8) (o := 188) okX11 (by decide) kf_RX11_51 dX11_knownPlan_34 hC T0.1 T0.2.1 rfl rfl ?_
    refine g_aload_n C (f := 0) dX11_knownPlan_37 0 rfl ?_
    obtain ⟨c13, h⟩ := ck_e h
    refine g_getf C (k := 4) (kd := 2) okX11 (by decide) kf_RX11_27 dX11_knownPlan_38 (rg_ hC T0.1) T0.2.1 rfl ?_
    have F14 := pgF_ hG c13
    refine g_aload_n C (f := 0) dX11_knownPlan_41 0 rfl ?_
    have F15 := fX11_6 hC T0.1 T0.2.1
    refine g_getR C (k := 6) (o := 139) okX11 (by decide) kf_RX11_37 dX11_knownPlan_42 hC T0.1 T0.2.1 rfl rfl ?_
    obtain ⟨q16, eq16, h⟩ := bd_e h
    refine g_cV C [(2, q11.2 x0 4), (2, x0 + 139)] (cX4_layTraces_ok l hC F12 F14 F15 eq16) okX4 F12.2.1 (rg_ hC F12.1) km_RX11_380 cv_X4_layTraces rfl (by decide) rfl rfl (Nat.le_of_ble_eq_true rfl) dX11_knownPlan_45 ?_
    refine g_aload_n C (f := 0) dX11_knownPlan_48 0 rfl ?_
    refine g_iconst C (n := 1) dX11_knownPlan_49 (by decide) ?_
    obtain ⟨v17, ev17, h⟩ := lt_e h
    refine g_putf C (k := 11) (kd := 0) okX11 (by decide) kf_RX11_370 dX11_knownPlan_50 (rg_ hC T0.1) T0.2.1 rfl rfl (nvZ (Or.inr rfl)) (Or.inl rfl) v17 ev17 ?_
    refine g_aload_n C (f := 0) dX11_knownPlan_53 0 rfl ?_
    have F18 := fX11_8 hC T0.1 T0.2.1
    refine g_getR C (k := 8) (o := 188) okX11 (by decide) kf_RX11_51 dX11_knownPlan_54 hC T0.1 T0.2.1 rfl rfl ?_
    cases h
    exact g_aret C dX11_knownPlan_57 hr (Or.inl ⟨_, rfl⟩) hlk
theorem rX11_knownPlan_ok {E : En_} {sz : Int} (hC : Cl_ E.2.2.2.2.2 sz) (hG : Pg_ E.2.2.2.2.2) {x0 : Int} {v : V_} {out : Int × V_} (T0 : (E.2.2.2.2.2 x0 ∧ ty_ x0 = 11 ∧ ln_ x0 = 0)) (h : fX11_knownPlan x0 v = some out) : E.2.2.2.2.2 out.1 ∧ ty_ out.1 = 4 ∧ ln_ out.1 = 0 := by
  rw [fX11_knownPlan] at h
  have F := fX11_8 hC T0.1 T0.2.1
  split at h
  · obtain ⟨_, h⟩ := ck_e h
    obtain ⟨_, _, h⟩ := bd_e h
    obtain ⟨_, h⟩ := ck_e h
    obtain ⟨_, _, h⟩ := bd_e h
    obtain ⟨_, h⟩ := ck_e h
    obtain ⟨_, _, h⟩ := bd_e h
    obtain ⟨_, _, h⟩ := lt_e h
    cases h; exact F
  · cases h; exact F
theorem dX11_knownFast_0 : decode cX11_knownFast 0 = .ok (.aload_n 0, 1) := by decide +kernel
theorem dX11_knownFast_1 : decode cX11_knownFast 1 = .ok (.getfield 367, 3) := by decide +kernel
theorem dX11_knownFast_4 : decode cX11_knownFast 4 = .ok (.ifCond .ne 27, 3) := by decide +kernel
theorem dX11_knownFast_7 : decode cX11_knownFast 7 = .ok (.aload_n 0, 1) := by decide +kernel
theorem dX11_knownFast_8 : decode cX11_knownFast 8 = .ok (.getfield 62, 3) := by decide +kernel
theorem dX11_knownFast_11 : decode cX11_knownFast 11 = .ok (.aload_n 0, 1) := by decide +kernel
theorem dX11_knownFast_12 : decode cX11_knownFast 12 = .ok (.getfield 27, 3) := by decide +kernel
theorem dX11_knownFast_15 : decode cX11_knownFast 15 = .ok (.aload_n 0, 1) := by decide +kernel
theorem dX11_knownFast_16 : decode cX11_knownFast 16 = .ok (.getfield 37, 3) := by decide +kernel
theorem dX11_knownFast_19 : decode cX11_knownFast 19 = .ok (.aload_n 0, 1) := by decide +kernel
theorem dX11_knownFast_20 : decode cX11_knownFast 20 = .ok (.invokevirtual 145, 3) := by decide +kernel
theorem dX11_knownFast_23 : decode cX11_knownFast 23 = .ok (.invokevirtual 386, 3) := by decide +kernel
theorem dX11_knownFast_26 : decode cX11_knownFast 26 = .ok (.aload_n 0, 1) := by decide +kernel
theorem dX11_knownFast_27 : decode cX11_knownFast 27 = .ok (.iconst 1, 1) := by decide +kernel
theorem dX11_knownFast_28 : decode cX11_knownFast 28 = .ok (.putfield 367, 3) := by decide +kernel
theorem dX11_knownFast_31 : decode cX11_knownFast 31 = .ok (.aload_n 0, 1) := by decide +kernel
theorem dX11_knownFast_32 : decode cX11_knownFast 32 = .ok (.getfield 62, 3) := by decide +kernel
theorem dX11_knownFast_35 : decode cX11_knownFast 35 = .ok (.areturn, 1) := by decide +kernel
def fX11_knownFast (x0 : Int) (v : V_) : Option (Int × V_) :=
  if (v x0 13) = 0 then (
    ck_ (v x0 4 = PA_ ∨ v x0 4 = PB_) (
    bd_ (fX11_knownPlan x0 v) fun q7 =>
    bd_ (fX6_goFast (x0 + 806) (v x0 4) (x0 + 139) q7.1 q7.2) fun q9 =>
    lt_ (up_ q9.2 x0 13 1) fun v10 =>
    some (x0 + 806, v10)))
  else (
    some (x0 + 806, v))
theorem cX11_knownFast_ok (l : Launch) {E : En_} {sz : Int} (hC : Cl_ E.2.2.2.2.2 sz) (hG : Pg_ E.2.2.2.2.2) {x0 : Int} {v : V_} {out : Int × V_} (T0 : (E.2.2.2.2.2 x0 ∧ ty_ x0 = 11 ∧ ln_ x0 = 0)) (h : fX11_knownFast x0 v = some out) : Met l yX11_knownFast [.code yX11_knownFast cX11_knownFast 1 (some (FieldType.object "TraceDesk$Runner"))] (rm_ 6 143) (Pc_ E sz v [(2, x0)]) (Qc_ E sz 2 out.1 out.2) 0 0 (fun q => E.1 < q) := by
  refine met_G0 RX11 (by decide +kernel) rfl (Nat.le_of_ble_eq_true rfl) ?_
  intro p e s m args below meth c C hr hlk
  rw [fX11_knownFast] at h
  refine g_aload_n C (f := 0) dX11_knownFast_0 0 rfl ?_
  refine g_getf C (k := 13) (kd := 0) okX11 (by decide) kf_RX11_367 dX11_knownFast_1 (rg_ hC T0.1) T0.2.1 rfl ?_
  refine g_if_ne C 31 dX11_knownFast_4 rfl (fun c1 => ?_) (fun c1 => ?_)
  · replace h := if_f h c1
    refine g_aload_n C (f := 0) dX11_knownFast_31 0 rfl ?_
    have F2 := fX11_10 hC T0.1 T0.2.1
    refine g_getR C (k := 10) (o := 806) okX11 (by decide) kf_RX11_62 dX11_knownFast_32 hC T0.1 T0.2.1 rfl rfl ?_
    cases h
    exact g_aret C dX11_knownFast_35 hr (Or.inl ⟨_, rfl⟩) hlk
  · replace h := if_t h c1
    refine g_aload_n C (f := 0) dX11_knownFast_7 0 rfl ?_
    have F3 := fX11_10 hC T0.1 T0.2.1
    refine g_getR C (k := 10) (o := 806) okX11 (by decide) kf_RX11_62 dX11_knownFast_8 hC T0.1 T0.2.1 rfl rfl ?_
    refine g_aload_n C (f := 0) dX11_knownFast_11 0 rfl ?_
    obtain ⟨c4, h⟩ := ck_e h
    refine g_getf C (k := 4) (kd := 2) okX11 (by decide) kf_RX11_27 dX11_knownFast_12 (rg_ hC T0.1) T0.2.1 rfl ?_
    have F5 := pgF_ hG c4
    refine g_aload_n C (f := 0) dX11_knownFast_15 0 rfl ?_
    have F6 := fX11_6 hC T0.1 T0.2.1
    refine g_getR C (k := 6) (o := 139) okX11 (by decide) kf_RX11_37 dX11_knownFast_16 hC T0.1 T0.2.1 rfl rfl ?_
    refine g_aload_n C (f := 0) dX11_knownFast_19 0 rfl ?_
    obtain ⟨q7, eq7, h⟩ := bd_e h
    refine g_cV C [] (cX11_knownPlan_ok l hC hG T0 eq7) okX11 T0.2.1 (rg_ hC T0.1) km_RX11_145 cv_X11_knownPlan rfl (by decide) rfl rfl (Nat.le_of_ble_eq_true rfl) dX11_knownFast_20 ?_
    have F8 := rX11_knownPlan_ok hC hG T0 eq7
    obtain ⟨q9, eq9, h⟩ := bd_e h
    refine g_cV C [(2, v x0 4), (2, x0 + 139), (2, q7.1)] (cX6_goFast_ok l hC F3 F5 F6 F8 eq9) okX6 F3.2.1 (rg_ hC F3.1) km_RX11_386 cv_X6_goFast rfl (by decide) rfl rfl (Nat.le_of_ble_eq_true rfl) dX11_knownFast_23 ?_
    refine g_aload_n C (f := 0) dX11_knownFast_26 0 rfl ?_
    refine g_iconst C (n := 1) dX11_knownFast_27 (by decide) ?_
    obtain ⟨v10, ev10, h⟩ := lt_e h
    refine g_putf C (k := 13) (kd := 0) okX11 (by decide) kf_RX11_367 dX11_knownFast_28 (rg_ hC T0.1) T0.2.1 rfl rfl (nvZ (Or.inr rfl)) (Or.inl rfl) v10 ev10 ?_
    refine g_aload_n C (f := 0) dX11_knownFast_31 0 rfl ?_
    have F11 := fX11_10 hC T0.1 T0.2.1
    refine g_getR C (k := 10) (o := 806) okX11 (by decide) kf_RX11_62 dX11_knownFast_32 hC T0.1 T0.2.1 rfl rfl ?_
    cases h
    exact g_aret C dX11_knownFast_35 hr (Or.inl ⟨_, rfl⟩) hlk
theorem rX11_knownFast_ok {E : En_} {sz : Int} (hC : Cl_ E.2.2.2.2.2 sz) (hG : Pg_ E.2.2.2.2.2) {x0 : Int} {v : V_} {out : Int × V_} (T0 : (E.2.2.2.2.2 x0 ∧ ty_ x0 = 11 ∧ ln_ x0 = 0)) (h : fX11_knownFast x0 v = some out) : E.2.2.2.2.2 out.1 ∧ ty_ out.1 = 6 ∧ ln_ out.1 = 0 := by
  rw [fX11_knownFast] at h
  have F := fX11_10 hC T0.1 T0.2.1
  split at h
  · obtain ⟨_, h⟩ := ck_e h
    obtain ⟨_, _, h⟩ := bd_e h
    obtain ⟨_, _, h⟩ := bd_e h
    obtain ⟨_, _, h⟩ := lt_e h
    cases h; exact F
  · cases h; exact F
theorem dX11_knownSlow_0 : decode cX11_knownSlow 0 = .ok (.aload_n 0, 1) := by decide +kernel
theorem dX11_knownSlow_1 : decode cX11_knownSlow 1 = .ok (.getfield 364, 3) := by decide +kernel
theorem dX11_knownSlow_4 : decode cX11_knownSlow 4 = .ok (.ifCond .ne 23, 3) := by decide +kernel
theorem dX11_knownSlow_7 : decode cX11_knownSlow 7 = .ok (.aload_n 0, 1) := by decide +kernel
theorem dX11_knownSlow_8 : decode cX11_knownSlow 8 = .ok (.getfield 58, 3) := by decide +kernel
theorem dX11_knownSlow_11 : decode cX11_knownSlow 11 = .ok (.aload_n 0, 1) := by decide +kernel
theorem dX11_knownSlow_12 : decode cX11_knownSlow 12 = .ok (.getfield 27, 3) := by decide +kernel
theorem dX11_knownSlow_15 : decode cX11_knownSlow 15 = .ok (.aload_n 0, 1) := by decide +kernel
theorem dX11_knownSlow_16 : decode cX11_knownSlow 16 = .ok (.getfield 37, 3) := by decide +kernel
theorem dX11_knownSlow_19 : decode cX11_knownSlow 19 = .ok (.invokevirtual 383, 3) := by decide +kernel
theorem dX11_knownSlow_22 : decode cX11_knownSlow 22 = .ok (.aload_n 0, 1) := by decide +kernel
theorem dX11_knownSlow_23 : decode cX11_knownSlow 23 = .ok (.iconst 1, 1) := by decide +kernel
theorem dX11_knownSlow_24 : decode cX11_knownSlow 24 = .ok (.putfield 364, 3) := by decide +kernel
theorem dX11_knownSlow_27 : decode cX11_knownSlow 27 = .ok (.aload_n 0, 1) := by decide +kernel
theorem dX11_knownSlow_28 : decode cX11_knownSlow 28 = .ok (.getfield 58, 3) := by decide +kernel
theorem dX11_knownSlow_31 : decode cX11_knownSlow 31 = .ok (.areturn, 1) := by decide +kernel
def fX11_knownSlow (x0 : Int) (v : V_) : Option (Int × V_) :=
  if (v x0 12) = 0 then (
    ck_ (v x0 4 = PA_ ∨ v x0 4 = PB_) (
    bd_ (fX6_goSlow (x0 + 799) (v x0 4) (x0 + 139) v) fun q7 =>
    lt_ (up_ q7.2 x0 12 1) fun v8 =>
    some (x0 + 799, v8)))
  else (
    some (x0 + 799, v))
theorem cX11_knownSlow_ok (l : Launch) {E : En_} {sz : Int} (hC : Cl_ E.2.2.2.2.2 sz) (hG : Pg_ E.2.2.2.2.2) {x0 : Int} {v : V_} {out : Int × V_} (T0 : (E.2.2.2.2.2 x0 ∧ ty_ x0 = 11 ∧ ln_ x0 = 0)) (h : fX11_knownSlow x0 v = some out) : Met l yX11_knownSlow [.code yX11_knownSlow cX11_knownSlow 1 (some (FieldType.object "TraceDesk$Runner"))] (rm_ 4 93) (Pc_ E sz v [(2, x0)]) (Qc_ E sz 2 out.1 out.2) 0 0 (fun q => E.1 < q) := by
  refine met_G0 RX11 (by decide +kernel) rfl (Nat.le_of_ble_eq_true rfl) ?_
  intro p e s m args below meth c C hr hlk
  rw [fX11_knownSlow] at h
  refine g_aload_n C (f := 0) dX11_knownSlow_0 0 rfl ?_
  refine g_getf C (k := 12) (kd := 0) okX11 (by decide) kf_RX11_364 dX11_knownSlow_1 (rg_ hC T0.1) T0.2.1 rfl ?_
  refine g_if_ne C 27 dX11_knownSlow_4 rfl (fun c1 => ?_) (fun c1 => ?_)
  · replace h := if_f h c1
    refine g_aload_n C (f := 0) dX11_knownSlow_27 0 rfl ?_
    have F2 := fX11_9 hC T0.1 T0.2.1
    refine g_getR C (k := 9) (o := 799) okX11 (by decide) kf_RX11_58 dX11_knownSlow_28 hC T0.1 T0.2.1 rfl rfl ?_
    cases h
    exact g_aret C dX11_knownSlow_31 hr (Or.inl ⟨_, rfl⟩) hlk
  · replace h := if_t h c1
    refine g_aload_n C (f := 0) dX11_knownSlow_7 0 rfl ?_
    have F3 := fX11_9 hC T0.1 T0.2.1
    refine g_getR C (k := 9) (o := 799) okX11 (by decide) kf_RX11_58 dX11_knownSlow_8 hC T0.1 T0.2.1 rfl rfl ?_
    refine g_aload_n C (f := 0) dX11_knownSlow_11 0 rfl ?_
    obtain ⟨c4, h⟩ := ck_e h
    refine g_getf C (k := 4) (kd := 2) okX11 (by decide) kf_RX11_27 dX11_knownSlow_12 (rg_ hC T0.1) T0.2.1 rfl ?_
    have F5 := pgF_ hG c4
    refine g_aload_n C (f := 0) dX11_knownSlow_15 0 rfl ?_
    have F6 := fX11_6 hC T0.1 T0.2.1
    refine g_getR C (k := 6) (o := 139) okX11 (by decide) kf_RX11_37 dX11_knownSlow_16 hC T0.1 T0.2.1 rfl rfl ?_
    obtain ⟨q7, eq7, h⟩ := bd_e h
    refine g_cV C [(2, v x0 4), (2, x0 + 139)] (cX6_goSlow_ok l hC F3 F5 F6 eq7) okX6 F3.2.1 (rg_ hC F3.1) km_RX11_383 cv_X6_goSlow rfl (by decide) rfl rfl (Nat.le_of_ble_eq_true rfl) dX11_knownSlow_19 ?_
    refine g_aload_n C (f := 0) dX11_knownSlow_22 0 rfl ?_
    refine g_iconst C (n := 1) dX11_knownSlow_23 (by decide) ?_
    obtain ⟨v8, ev8, h⟩ := lt_e h
    refine g_putf C (k := 12) (kd := 0) okX11 (by decide) kf_RX11_364 dX11_knownSlow_24 (rg_ hC T0.1) T0.2.1 rfl rfl (nvZ (Or.inr rfl)) (Or.inl rfl) v8 ev8 ?_
    refine g_aload_n C (f := 0) dX11_knownSlow_27 0 rfl ?_
    have F9 := fX11_9 hC T0.1 T0.2.1
    refine g_getR C (k := 9) (o := 799) okX11 (by decide) kf_RX11_58 dX11_knownSlow_28 hC T0.1 T0.2.1 rfl rfl ?_
    cases h
    exact g_aret C dX11_knownSlow_31 hr (Or.inl ⟨_, rfl⟩) hlk
theorem rX11_knownSlow_ok {E : En_} {sz : Int} (hC : Cl_ E.2.2.2.2.2 sz) (hG : Pg_ E.2.2.2.2.2) {x0 : Int} {v : V_} {out : Int × V_} (T0 : (E.2.2.2.2.2 x0 ∧ ty_ x0 = 11 ∧ ln_ x0 = 0)) (h : fX11_knownSlow x0 v = some out) : E.2.2.2.2.2 out.1 ∧ ty_ out.1 = 6 ∧ ln_ out.1 = 0 := by
  rw [fX11_knownSlow] at h
  have F := fX11_9 hC T0.1 T0.2.1
  split at h
  · obtain ⟨_, h⟩ := ck_e h
    obtain ⟨_, _, h⟩ := bd_e h
    obtain ⟨_, _, h⟩ := lt_e h
    cases h; exact F
  · cases h; exact F
theorem dX11_agrees_0 : decode cX11_agrees 0 = .ok (.aload_n 0, 1) := by decide +kernel
theorem dX11_agrees_1 : decode cX11_agrees 1 = .ok (.invokevirtual 178, 3) := by decide +kernel
theorem dX11_agrees_4 : decode cX11_agrees 4 = .ok (.aload_n 0, 1) := by decide +kernel
theorem dX11_agrees_5 : decode cX11_agrees 5 = .ok (.invokevirtual 313, 3) := by decide +kernel
theorem dX11_agrees_8 : decode cX11_agrees 8 = .ok (.invokevirtual 322, 3) := by decide +kernel
theorem dX11_agrees_11 : decode cX11_agrees 11 = .ok (.ifCond .eq 7, 3) := by decide +kernel
theorem dX11_agrees_14 : decode cX11_agrees 14 = .ok (.iconst 1, 1) := by decide +kernel
theorem dX11_agrees_15 : decode cX11_agrees 15 = .ok (.goto 4, 3) := by decide +kernel
theorem dX11_agrees_18 : decode cX11_agrees 18 = .ok (.iconst 0, 1) := by decide +kernel
theorem dX11_agrees_19 : decode cX11_agrees 19 = .ok (.ireturn, 1) := by decide +kernel
def fX11_agrees (x0 : Int) (v : V_) : Option (Int × V_) :=
  bd_ (fX11_knownSlow x0 v) fun q1 =>
  bd_ (fX11_knownFast x0 q1.2) fun q3 =>
  bd_ (fX6_comesToWhat q1.1 q3.1 q3.2) fun q5 =>
  if q5.1 = 0 then (
    some (0, q5.2))
  else (
    some (1, q5.2))
theorem cX11_agrees_ok (l : Launch) {E : En_} {sz : Int} (hC : Cl_ E.2.2.2.2.2 sz) (hG : Pg_ E.2.2.2.2.2) {x0 : Int} {v : V_} {out : Int × V_} (T0 : (E.2.2.2.2.2 x0 ∧ ty_ x0 = 11 ∧ ln_ x0 = 0)) (h : fX11_agrees x0 v = some out) : Met l yX11_agrees [.code yX11_agrees cX11_agrees 1 (some FieldType.int)] (rm_ 7 163) (Pc_ E sz v [(2, x0)]) (Qc_ E sz 0 out.1 out.2) 0 0 (fun q => E.1 < q) := by
  refine met_G0 RX11 (by decide +kernel) rfl (Nat.le_of_ble_eq_true rfl) ?_
  intro p e s m args below meth c C hr hlk
  rw [fX11_agrees] at h
  refine g_aload_n C (f := 0) dX11_agrees_0 0 rfl ?_
  obtain ⟨q1, eq1, h⟩ := bd_e h
  refine g_cV C [] (cX11_knownSlow_ok l hC hG T0 eq1) okX11 T0.2.1 (rg_ hC T0.1) km_RX11_178 cv_X11_knownSlow rfl (by decide) rfl rfl (Nat.le_of_ble_eq_true rfl) dX11_agrees_1 ?_
  have F2 := rX11_knownSlow_ok hC hG T0 eq1
  refine g_aload_n C (f := 0) dX11_agrees_4 0 rfl ?_
  obtain ⟨q3, eq3, h⟩ := bd_e h
  refine g_cV C [] (cX11_knownFast_ok l hC hG T0 eq3) okX11 T0.2.1 (rg_ hC T0.1) km_RX11_313 cv_X11_knownFast rfl (by decide) rfl rfl (Nat.le_of_ble_eq_true rfl) dX11_agrees_5 ?_
  have F4 := rX11_knownFast_ok hC hG T0 eq3
  obtain ⟨q5, eq5, h⟩ := bd_e h
  refine g_cV C [(2, q3.1)] (cX6_comesToWhat_ok l hC F2 F4 eq5) okX6 F2.2.1 (rg_ hC F2.1) km_RX11_322 cv_X6_comesToWhat rfl (by decide) rfl rfl (Nat.le_of_ble_eq_true rfl) dX11_agrees_8 ?_
  refine g_if_eq C 18 dX11_agrees_11 rfl (fun c6 => ?_) (fun c6 => ?_)
  · replace h := if_t h c6
    refine g_iconst C (n := 0) dX11_agrees_18 (by decide) ?_
    cases h
    exact g_iret C dX11_agrees_19 hr hlk
  · replace h := if_f h c6
    refine g_iconst C (n := 1) dX11_agrees_14 (by decide) ?_
    refine g_goto C 19 dX11_agrees_15 rfl ?_
    cases h
    exact g_iret C dX11_agrees_19 hr hlk
theorem dX11_append_0 : decode cX11_append 0 = .ok (.bipush 24, 2) := by decide +kernel
theorem dX11_append_2 : decode cX11_append 2 = .ok (.istore_n 2, 1) := by decide +kernel
theorem dX11_append_3 : decode cX11_append 3 = .ok (.iload_n 2, 1) := by decide +kernel
theorem dX11_append_4 : decode cX11_append 4 = .ok (.ifCond .lt 42, 3) := by decide +kernel
theorem dX11_append_7 : decode cX11_append 7 = .ok (.aload_n 0, 1) := by decide +kernel
theorem dX11_append_8 : decode cX11_append 8 = .ok (.getfield 69, 3) := by decide +kernel
theorem dX11_append_11 : decode cX11_append 11 = .ok (.sipush 2000, 3) := by decide +kernel
theorem dX11_append_14 : decode cX11_append 14 = .ok (.if_icmp .ge 32, 3) := by decide +kernel
theorem dX11_append_17 : decode cX11_append 17 = .ok (.aload_n 0, 1) := by decide +kernel
theorem dX11_append_18 : decode cX11_append 18 = .ok (.getfield 9, 3) := by decide +kernel
theorem dX11_append_21 : decode cX11_append 21 = .ok (.aload_n 0, 1) := by decide +kernel
theorem dX11_append_22 : decode cX11_append 22 = .ok (.getfield 69, 3) := by decide +kernel
theorem dX11_append_25 : decode cX11_append 25 = .ok (.iload_n 1, 1) := by decide +kernel
theorem dX11_append_26 : decode cX11_append 26 = .ok (.iload_n 2, 1) := by decide +kernel
theorem dX11_append_27 : decode cX11_append 27 = .ok (.ishr, 1) := by decide +kernel
theorem dX11_append_28 : decode cX11_append 28 = .ok (.i2b, 1) := by decide +kernel
theorem dX11_append_29 : decode cX11_append 29 = .ok (.bastore, 1) := by decide +kernel
theorem dX11_append_30 : decode cX11_append 30 = .ok (.aload_n 0, 1) := by decide +kernel
theorem dX11_append_31 : decode cX11_append 31 = .ok (.dup, 1) := by decide +kernel
theorem dX11_append_32 : decode cX11_append 32 = .ok (.getfield 69, 3) := by decide +kernel
theorem dX11_append_35 : decode cX11_append 35 = .ok (.iconst 1, 1) := by decide +kernel
theorem dX11_append_36 : decode cX11_append 36 = .ok (.iadd, 1) := by decide +kernel
theorem dX11_append_37 : decode cX11_append 37 = .ok (.putfield 69, 3) := by decide +kernel
theorem dX11_append_40 : decode cX11_append 40 = .ok (.iinc 2 (-8), 3) := by decide +kernel
theorem dX11_append_43 : decode cX11_append 43 = .ok (.goto (-40), 3) := by decide +kernel
theorem dX11_append_46 : decode cX11_append 46 = .ok (.return_, 1) := by decide +kernel
def fX11_append_3 : Nat → Int → Int → Int → V_ → Option (Int × V_)
  | 0, _, _, _, _ => none
  | n + 1, x0, x1, x2, v =>
    if x2 < 0 then (
      some (0, v))
    else (
      if 2000 ≤ (v x0 1) then (
        some (0, v))
      else (
        ck_ (0 ≤ v x0 1 ∧ v x0 1 < 2000) (
        lt_ (up_ v (x0 + 1) (v x0 1) (w8_ (w8_ (sR_ x1 x2)))) fun v5 =>
        lt_ (up_ v5 x0 1 (wr_ ((v5 x0 1) + 1))) fun v6 =>
        lt_ (wr_ (x2 + (-8))) fun y7 =>
        (fX11_append_3 n) x0 x1 y7 v6)))
def fX11_append (x0 x1 : Int) (v : V_) : Option (Int × V_) :=
  fX11_append_3 fu_ x0 x1 24 v
section
variable {E : En_} {p : Program} {l : Launch} {e : Env} {s : State} {m : MethodId} {args : Array Value} {below : List Frame} {meth : Method} {c : Code} {sz : Int}
theorem tX11_append_3 (C : MC_ E p s m c cX11_append 3 RX11) (hr : meth.sig.returnType = (none : Option FieldType)) (hlk : meth.locks = false) (hC : Cl_ E.2.2.2.2.2 sz) (hG : Pg_ E.2.2.2.2.2) {out : Int × V_} : ∀ (n : Nat) (x0 x1 x2 : Int) (v : V_), (E.2.2.2.2.2 x0 ∧ ty_ x0 = 11 ∧ ln_ x0 = 0) → fX11_append_3 n x0 x1 x2 v = some out → G_ E p l e (rm_ 0 0) s m args below meth c 3 sz (Q_ E below args s sz sz 9 out.1 out.2) 3 [(0, (2, x0)), (1, (0, x1)), (2, (0, x2))] [] v sz := by
  intro n
  induction n with
  | zero =>
    intro x0 x1 x2 v T0 h
    cases h
  | succ n H_3 =>
    intro x0 x1 x2 v T0 h
    rw [fX11_append_3] at h
    refine g_iload_n C (f := 2) dX11_append_3 2 rfl ?_
    refine g_if_lt C 46 dX11_append_4 rfl (fun c1 => ?_) (fun c1 => ?_)
    · replace h := if_t h c1
      cases h
      exact g_vret C dX11_append_46 hr hlk
    · replace h := if_f h c1
      refine g_aload_n C (f := 0) dX11_append_7 0 rfl ?_
      refine g_getf C (k := 1) (kd := 0) okX11 (by decide) kf_RX11_69 dX11_append_8 (rg_ hC T0.1) T0.2.1 rfl ?_
      refine g_sipush C (n := 2000) dX11_append_11 (by decide) ?_
      refine g_icmp_ge C 46 dX11_append_14 rfl (fun c2 => ?_) (fun c2 => ?_)
      · replace h := if_t h c2
        cases h
        exact g_vret C dX11_append_46 hr hlk
      · replace h := if_f h c2
        refine g_aload_n C (f := 0) dX11_append_17 0 rfl ?_
        have F3 := fX11_0 hC T0.1 T0.2.1
        refine g_getR C (k := 0) (o := 1) okX11 (by decide) kf_RX11_9 dX11_append_18 hC T0.1 T0.2.1 rfl rfl ?_
        refine g_aload_n C (f := 0) dX11_append_21 0 rfl ?_
        refine g_getf C (k := 1) (kd := 0) okX11 (by decide) kf_RX11_69 dX11_append_22 (rg_ hC T0.1) T0.2.1 rfl ?_
        refine g_iload_n C (f := 1) dX11_append_25 1 rfl ?_
        refine g_iload_n C (f := 2) dX11_append_26 2 rfl ?_
        refine g_ishr C dX11_append_27 ?_
        refine g_i2b C dX11_append_28 ?_
        obtain ⟨c4, h⟩ := ck_e h
        obtain ⟨v5, ev5, h⟩ := lt_e h
        refine g_bast C 2000 dX11_append_29 (rg_ hC F3.1) F3.2.1 F3.2.2 c4 v5 ev5 ?_
        refine g_aload_n C (f := 0) dX11_append_30 0 rfl ?_
        refine g_dup C (Nat.ne_of_beq_eq_false rfl) dX11_append_31 ?_
        refine g_getf C (k := 1) (kd := 0) okX11 (by decide) kf_RX11_69 dX11_append_32 (rg_ hC T0.1) T0.2.1 rfl ?_
        refine g_iconst C (n := 1) dX11_append_35 (by decide) ?_
        refine g_iadd C dX11_append_36 ?_
        obtain ⟨v6, ev6, h⟩ := lt_e h
        refine g_putf C (k := 1) (kd := 0) okX11 (by decide) kf_RX11_69 dX11_append_37 (rg_ hC T0.1) T0.2.1 rfl rfl nvI (Or.inl rfl) v6 ev6 ?_
        obtain ⟨y7, ey7, h⟩ := lt_e h
        refine g_iincx C (ls' := [(2, (0, y7)), (0, (2, x0)), (1, (0, x1))]) ey7 dX11_append_40 2 rfl (by decide) (by decide) rfl ?_
        refine g_goto C 3 dX11_append_43 rfl ?_
        refine g_sub [1, 2, 0] rfl rfl ?_
        exact H_3 _ _ _ _ T0 h
end
theorem cX11_append_ok (l : Launch) {E : En_} {sz : Int} (hC : Cl_ E.2.2.2.2.2 sz) (hG : Pg_ E.2.2.2.2.2) {x0 x1 : Int} {v : V_} {out : Int × V_} (T0 : (E.2.2.2.2.2 x0 ∧ ty_ x0 = 11 ∧ ln_ x0 = 0)) (h : fX11_append x0 x1 v = some out) : Met l yX11_append [.code yX11_append cX11_append 3 (none : Option FieldType)] (rm_ 0 0) (Pc_ E sz v [(2, x0), (0, x1)]) (Qc_ E sz 9 out.1 out.2) 0 0 (fun q => E.1 < q) := by
  refine met_G0 RX11 (by decide +kernel) rfl (Nat.le_of_ble_eq_true rfl) ?_
  intro p e s m args below meth c C hr hlk
  rw [fX11_append] at h
  refine g_bipush C (n := 24) dX11_append_0 (by decide) ?_
  refine g_istore_n C (f := 2) (ls' := [(2, (0, 24)), (0, (2, x0)), (1, (0, x1))]) dX11_append_2 (by decide) rfl ?_
  refine g_sub [1, 2, 0] rfl rfl ?_
  exact tX11_append_3 C hr hlk hC hG _ _ _ _ _ T0 h
theorem dX11_back_0 : decode cX11_back 0 = .ok (.iload_n 1, 1) := by decide +kernel
theorem dX11_back_1 : decode cX11_back 1 = .ok (.ifCond .lt 11, 3) := by decide +kernel
theorem dX11_back_4 : decode cX11_back 4 = .ok (.iload_n 1, 1) := by decide +kernel
theorem dX11_back_5 : decode cX11_back 5 = .ok (.aload_n 0, 1) := by decide +kernel
theorem dX11_back_6 : decode cX11_back 6 = .ok (.getfield 69, 3) := by decide +kernel
theorem dX11_back_9 : decode cX11_back 9 = .ok (.if_icmp .le 5, 3) := by decide +kernel
theorem dX11_back_12 : decode cX11_back 12 = .ok (.iconst (-1), 1) := by decide +kernel
theorem dX11_back_13 : decode cX11_back 13 = .ok (.ireturn, 1) := by decide +kernel
theorem dX11_back_14 : decode cX11_back 14 = .ok (.aload_n 0, 1) := by decide +kernel
theorem dX11_back_15 : decode cX11_back 15 = .ok (.dup, 1) := by decide +kernel
theorem dX11_back_16 : decode cX11_back 16 = .ok (.getfield 69, 3) := by decide +kernel
theorem dX11_back_19 : decode cX11_back 19 = .ok (.iload_n 1, 1) := by decide +kernel
theorem dX11_back_20 : decode cX11_back 20 = .ok (.isub, 1) := by decide +kernel
theorem dX11_back_21 : decode cX11_back 21 = .ok (.putfield 69, 3) := by decide +kernel
theorem dX11_back_24 : decode cX11_back 24 = .ok (.aload_n 0, 1) := by decide +kernel
theorem dX11_back_25 : decode cX11_back 25 = .ok (.getfield 69, 3) := by decide +kernel
theorem dX11_back_28 : decode cX11_back 28 = .ok (.ireturn, 1) := by decide +kernel
def fX11_back (x0 x1 : Int) (v : V_) : Option (Int × V_) :=
  if x1 < 0 then (
    some ((-1), v))
  else (
    if x1 ≤ (v x0 1) then (
      lt_ (up_ v x0 1 (wr_ ((v x0 1) - x1))) fun v3 =>
      some (v3 x0 1, v3))
    else (
      some ((-1), v)))
theorem cX11_back_ok (l : Launch) {E : En_} {sz : Int} (hC : Cl_ E.2.2.2.2.2 sz) (hG : Pg_ E.2.2.2.2.2) {x0 x1 : Int} {v : V_} {out : Int × V_} (T0 : (E.2.2.2.2.2 x0 ∧ ty_ x0 = 11 ∧ ln_ x0 = 0)) (h : fX11_back x0 x1 v = some out) : Met l yX11_back [.code yX11_back cX11_back 2 (some FieldType.int)] (rm_ 0 0) (Pc_ E sz v [(2, x0), (0, x1)]) (Qc_ E sz 0 out.1 out.2) 0 0 (fun q => E.1 < q) := by
  refine met_G0 RX11 (by decide +kernel) rfl (Nat.le_of_ble_eq_true rfl) ?_
  intro p e s m args below meth c C hr hlk
  rw [fX11_back] at h
  refine g_iload_n C (f := 1) dX11_back_0 1 rfl ?_
  refine g_if_lt C 12 dX11_back_1 rfl (fun c1 => ?_) (fun c1 => ?_)
  · replace h := if_t h c1
    refine g_iconst C (n := (-1)) dX11_back_12 (by decide) ?_
    cases h
    exact g_iret C dX11_back_13 hr hlk
  · replace h := if_f h c1
    refine g_iload_n C (f := 1) dX11_back_4 1 rfl ?_
    refine g_aload_n C (f := 0) dX11_back_5 0 rfl ?_
    refine g_getf C (k := 1) (kd := 0) okX11 (by decide) kf_RX11_69 dX11_back_6 (rg_ hC T0.1) T0.2.1 rfl ?_
    refine g_icmp_le C 14 dX11_back_9 rfl (fun c2 => ?_) (fun c2 => ?_)
    · replace h := if_t h c2
      refine g_aload_n C (f := 0) dX11_back_14 0 rfl ?_
      refine g_dup C (Nat.ne_of_beq_eq_false rfl) dX11_back_15 ?_
      refine g_getf C (k := 1) (kd := 0) okX11 (by decide) kf_RX11_69 dX11_back_16 (rg_ hC T0.1) T0.2.1 rfl ?_
      refine g_iload_n C (f := 1) dX11_back_19 1 rfl ?_
      refine g_isub C dX11_back_20 ?_
      obtain ⟨v3, ev3, h⟩ := lt_e h
      refine g_putf C (k := 1) (kd := 0) okX11 (by decide) kf_RX11_69 dX11_back_21 (rg_ hC T0.1) T0.2.1 rfl rfl nvI (Or.inl rfl) v3 ev3 ?_
      refine g_aload_n C (f := 0) dX11_back_24 0 rfl ?_
      refine g_getf C (k := 1) (kd := 0) okX11 (by decide) kf_RX11_69 dX11_back_25 (rg_ hC T0.1) T0.2.1 rfl ?_
      cases h
      exact g_iret C dX11_back_28 hr hlk
    · replace h := if_f h c2
      refine g_iconst C (n := (-1)) dX11_back_12 (by decide) ?_
      cases h
      exact g_iret C dX11_back_13 hr hlk
theorem dX11_block_0 : decode cX11_block 0 = .ok (.aload_n 0, 1) := by decide +kernel
theorem dX11_block_1 : decode cX11_block 1 = .ok (.getfield 27, 3) := by decide +kernel
theorem dX11_block_4 : decode cX11_block 4 = .ok (.iload_n 1, 1) := by decide +kernel
theorem dX11_block_5 : decode cX11_block 5 = .ok (.invokevirtual 119, 3) := by decide +kernel
theorem dX11_block_8 : decode cX11_block 8 = .ok (.ifCond .ne 5, 3) := by decide +kernel
theorem dX11_block_11 : decode cX11_block 11 = .ok (.iconst (-1), 1) := by decide +kernel
theorem dX11_block_12 : decode cX11_block 12 = .ok (.ireturn, 1) := by decide +kernel
theorem dX11_block_13 : decode cX11_block 13 = .ok (.iload_n 2, 1) := by decide +kernel
theorem dX11_block_14 : decode cX11_block 14 = .ok (.tableswitch 142 0 8 #[50, 60, 76, 85, 85, 97, 107, 116, 125], 50) := by decide +kernel
theorem dX11_block_64 : decode cX11_block 64 = .ok (.aload_n 0, 1) := by decide +kernel
theorem dX11_block_65 : decode cX11_block 65 = .ok (.getfield 27, 3) := by decide +kernel
theorem dX11_block_68 : decode cX11_block 68 = .ok (.getfield 122, 3) := by decide +kernel
theorem dX11_block_71 : decode cX11_block 71 = .ok (.iload_n 1, 1) := by decide +kernel
theorem dX11_block_72 : decode cX11_block 72 = .ok (.iaload, 1) := by decide +kernel
theorem dX11_block_73 : decode cX11_block 73 = .ok (.ireturn, 1) := by decide +kernel
theorem dX11_block_74 : decode cX11_block 74 = .ok (.aload_n 0, 1) := by decide +kernel
theorem dX11_block_75 : decode cX11_block 75 = .ok (.getfield 27, 3) := by decide +kernel
theorem dX11_block_78 : decode cX11_block 78 = .ok (.getfield 126, 3) := by decide +kernel
theorem dX11_block_81 : decode cX11_block 81 = .ok (.iload_n 1, 1) := by decide +kernel
theorem dX11_block_82 : decode cX11_block 82 = .ok (.aaload, 1) := by decide +kernel
theorem dX11_block_83 : decode cX11_block 83 = .ok (.getfield 130, 3) := by decide +kernel
theorem dX11_block_86 : decode cX11_block 86 = .ok (.bipush 7, 2) := by decide +kernel
theorem dX11_block_88 : decode cX11_block 88 = .ok (.isub, 1) := by decide +kernel
theorem dX11_block_89 : decode cX11_block 89 = .ok (.ireturn, 1) := by decide +kernel
theorem dX11_block_90 : decode cX11_block 90 = .ok (.aload_n 0, 1) := by decide +kernel
theorem dX11_block_91 : decode cX11_block 91 = .ok (.getfield 37, 3) := by decide +kernel
theorem dX11_block_94 : decode cX11_block 94 = .ok (.iload_n 1, 1) := by decide +kernel
theorem dX11_block_95 : decode cX11_block 95 = .ok (.invokevirtual 135, 3) := by decide +kernel
theorem dX11_block_98 : decode cX11_block 98 = .ok (.ireturn, 1) := by decide +kernel
theorem dX11_block_99 : decode cX11_block 99 = .ok (.aload_n 0, 1) := by decide +kernel
theorem dX11_block_100 : decode cX11_block 100 = .ok (.getfield 27, 3) := by decide +kernel
theorem dX11_block_103 : decode cX11_block 103 = .ok (.iload_n 1, 1) := by decide +kernel
theorem dX11_block_104 : decode cX11_block 104 = .ok (.iload_n 2, 1) := by decide +kernel
theorem dX11_block_105 : decode cX11_block 105 = .ok (.iconst 3, 1) := by decide +kernel
theorem dX11_block_106 : decode cX11_block 106 = .ok (.isub, 1) := by decide +kernel
theorem dX11_block_107 : decode cX11_block 107 = .ok (.invokevirtual 138, 3) := by decide +kernel
theorem dX11_block_110 : decode cX11_block 110 = .ok (.ireturn, 1) := by decide +kernel
theorem dX11_block_111 : decode cX11_block 111 = .ok (.aload_n 0, 1) := by decide +kernel
theorem dX11_block_112 : decode cX11_block 112 = .ok (.getfield 27, 3) := by decide +kernel
theorem dX11_block_115 : decode cX11_block 115 = .ok (.getfield 142, 3) := by decide +kernel
theorem dX11_block_118 : decode cX11_block 118 = .ok (.iload_n 1, 1) := by decide +kernel
theorem dX11_block_119 : decode cX11_block 119 = .ok (.iaload, 1) := by decide +kernel
theorem dX11_block_120 : decode cX11_block 120 = .ok (.ireturn, 1) := by decide +kernel
theorem dX11_block_121 : decode cX11_block 121 = .ok (.aload_n 0, 1) := by decide +kernel
theorem dX11_block_122 : decode cX11_block 122 = .ok (.invokevirtual 145, 3) := by decide +kernel
theorem dX11_block_125 : decode cX11_block 125 = .ok (.iload_n 1, 1) := by decide +kernel
theorem dX11_block_126 : decode cX11_block 126 = .ok (.invokevirtual 149, 3) := by decide +kernel
theorem dX11_block_129 : decode cX11_block 129 = .ok (.ireturn, 1) := by decide +kernel
theorem dX11_block_130 : decode cX11_block 130 = .ok (.aload_n 0, 1) := by decide +kernel
theorem dX11_block_131 : decode cX11_block 131 = .ok (.invokevirtual 145, 3) := by decide +kernel
theorem dX11_block_134 : decode cX11_block 134 = .ok (.iload_n 1, 1) := by decide +kernel
theorem dX11_block_135 : decode cX11_block 135 = .ok (.invokevirtual 152, 3) := by decide +kernel
theorem dX11_block_138 : decode cX11_block 138 = .ok (.ireturn, 1) := by decide +kernel
theorem dX11_block_139 : decode cX11_block 139 = .ok (.aload_n 0, 1) := by decide +kernel
theorem dX11_block_140 : decode cX11_block 140 = .ok (.invokevirtual 145, 3) := by decide +kernel
theorem dX11_block_143 : decode cX11_block 143 = .ok (.iload_n 1, 1) := by decide +kernel
theorem dX11_block_144 : decode cX11_block 144 = .ok (.invokevirtual 155, 3) := by decide +kernel
theorem dX11_block_147 : decode cX11_block 147 = .ok (.ifCond .eq 7, 3) := by decide +kernel
theorem dX11_block_150 : decode cX11_block 150 = .ok (.iconst 1, 1) := by decide +kernel
theorem dX11_block_151 : decode cX11_block 151 = .ok (.goto 4, 3) := by decide +kernel
theorem dX11_block_154 : decode cX11_block 154 = .ok (.iconst 0, 1) := by decide +kernel
theorem dX11_block_155 : decode cX11_block 155 = .ok (.ireturn, 1) := by decide +kernel
theorem dX11_block_156 : decode cX11_block 156 = .ok (.iconst (-1), 1) := by decide +kernel
theorem dX11_block_157 : decode cX11_block 157 = .ok (.ireturn, 1) := by decide +kernel
def fX11_block (x0 x1 x2 : Int) (v : V_) : Option (Int × V_) :=
  ck_ (v x0 4 = PA_ ∨ v x0 4 = PB_) (
  bd_ (fX5_hasBlock (v x0 4) x1 v) fun q3 =>
  if q3.1 = 0 then (
    some ((-1), q3.2))
  else (
    if x2 = 0 then (
      ck_ (q3.2 x0 4 = PA_ ∨ q3.2 x0 4 = PB_) (
      ck_ (0 ≤ x1 ∧ x1 < 8) (
      some (q3.2 ((q3.2 x0 4) + 1) x1, q3.2))))
    else (
    if x2 = 1 then (
      ck_ (q3.2 x0 4 = PA_ ∨ q3.2 x0 4 = PB_) (
      ck_ (0 ≤ x1 ∧ x1 < 8) (
      some (wr_ ((q3.2 (((q3.2 x0 4) + 3) + (53 + 1 * x1)) 0) - 7), q3.2))))
    else (
    if x2 = 2 then (
      bd_ (fX7_begunOf (x0 + 139) x1 q3.2) fun q18 =>
      some (q18.1, q18.2))
    else (
    if x2 = 3 then (
      ck_ (q3.2 x0 4 = PA_ ∨ q3.2 x0 4 = PB_) (
      bd_ (fX5_leadsTo (q3.2 x0 4) x1 (wr_ (x2 - 3)) q3.2) fun q22 =>
      some (q22.1, q22.2)))
    else (
    if x2 = 4 then (
      ck_ (q3.2 x0 4 = PA_ ∨ q3.2 x0 4 = PB_) (
      bd_ (fX5_leadsTo (q3.2 x0 4) x1 (wr_ (x2 - 3)) q3.2) fun q26 =>
      some (q26.1, q26.2)))
    else (
    if x2 = 5 then (
      ck_ (q3.2 x0 4 = PA_ ∨ q3.2 x0 4 = PB_) (
      ck_ (0 ≤ x1 ∧ x1 < 8) (
      some (q3.2 ((q3.2 x0 4) + 5) x1, q3.2))))
    else (
    if x2 = 6 then (
      bd_ (fX11_knownPlan x0 q3.2) fun q33 =>
      bd_ (fX4_traceOf q33.1 x1 q33.2) fun q35 =>
      some (q35.1, q35.2))
    else (
    if x2 = 7 then (
      bd_ (fX11_knownPlan x0 q3.2) fun q37 =>
      bd_ (fX4_placeOf q37.1 x1 q37.2) fun q39 =>
      some (q39.1, q39.2))
    else (
    if x2 = 8 then (
      bd_ (fX11_knownPlan x0 q3.2) fun q41 =>
      bd_ (fX4_joins q41.1 x1 q41.2) fun q43 =>
      if q43.1 = 0 then (
        some (0, q43.2))
      else (
        some (1, q43.2)))
    else (
    some ((-1), q3.2))))))))))))
theorem cX11_block_ok (l : Launch) {E : En_} {sz : Int} (hC : Cl_ E.2.2.2.2.2 sz) (hG : Pg_ E.2.2.2.2.2) {x0 x1 x2 : Int} {v : V_} {out : Int × V_} (T0 : (E.2.2.2.2.2 x0 ∧ ty_ x0 = 11 ∧ ln_ x0 = 0)) (h : fX11_block x0 x1 x2 v = some out) : Met l yX11_block [.code yX11_block cX11_block 3 (some FieldType.int)] (rm_ 6 143) (Pc_ E sz v [(2, x0), (0, x1), (0, x2)]) (Qc_ E sz 0 out.1 out.2) 0 0 (fun q => E.1 < q) := by
  refine met_G0 RX11 (by decide +kernel) rfl (Nat.le_of_ble_eq_true rfl) ?_
  intro p e s m args below meth c C hr hlk
  rw [fX11_block] at h
  refine g_aload_n C (f := 0) dX11_block_0 0 rfl ?_
  obtain ⟨c1, h⟩ := ck_e h
  refine g_getf C (k := 4) (kd := 2) okX11 (by decide) kf_RX11_27 dX11_block_1 (rg_ hC T0.1) T0.2.1 rfl ?_
  have F2 := pgF_ hG c1
  refine g_iload_n C (f := 1) dX11_block_4 1 rfl ?_
  obtain ⟨q3, eq3, h⟩ := bd_e h
  refine g_cV C [(0, x1)] (cX5_hasBlock_ok l hC F2 eq3) okX5 F2.2.1 (rg_ hC F2.1) km_RX11_119 cv_X5_hasBlock rfl (by decide) rfl rfl (Nat.le_of_ble_eq_true rfl) dX11_block_5 ?_
  refine g_if_ne C 13 dX11_block_8 rfl (fun c4 => ?_) (fun c4 => ?_)
  · replace h := if_f h c4
    refine g_iload_n C (f := 2) dX11_block_13 2 rfl ?_
    by_cases c5 : x2 = 0
    · replace h := if_t h c5
      refine g_tin C 64 dX11_block_14 0 c5 (by decide) (by decide) rfl rfl ?_
      refine g_aload_n C (f := 0) dX11_block_64 0 rfl ?_
      obtain ⟨c6, h⟩ := ck_e h
      refine g_getf C (k := 4) (kd := 2) okX11 (by decide) kf_RX11_27 dX11_block_65 (rg_ hC T0.1) T0.2.1 rfl ?_
      have F7 := pgF_ hG c6
      have F8 := fX5_1 hC F7.1 F7.2.1
      refine g_getR C (k := 1) (o := 1) okX5 (by decide) kf_RX11_122 dX11_block_68 hC F7.1 F7.2.1 rfl rfl ?_
      refine g_iload_n C (f := 1) dX11_block_71 1 rfl ?_
      obtain ⟨c9, h⟩ := ck_e h
      refine g_iald C 8 dX11_block_72 (rg_ hC F8.1) F8.2.1 F8.2.2 c9 ?_
      cases h
      exact g_iret C dX11_block_73 hr hlk
    replace h := if_f h c5
    by_cases c10 : x2 = 1
    · replace h := if_t h c10
      refine g_tin C 74 dX11_block_14 1 c10 (by decide) (by decide) rfl rfl ?_
      refine g_aload_n C (f := 0) dX11_block_74 0 rfl ?_
      obtain ⟨c11, h⟩ := ck_e h
      refine g_getf C (k := 4) (kd := 2) okX11 (by decide) kf_RX11_27 dX11_block_75 (rg_ hC T0.1) T0.2.1 rfl ?_
      have F12 := pgF_ hG c11
      have F13 := fX5_3 hC F12.1 F12.2.1
      refine g_getR C (k := 3) (o := 3) okX5 (by decide) kf_RX11_126 dX11_block_78 hC F12.1 F12.2.1 rfl rfl ?_
      refine g_iload_n C (f := 1) dX11_block_81 1 rfl ?_
      obtain ⟨c14, h⟩ := ck_e h
      have F15 := fE_ends (i := x1) hC F13.1 F13.2.1 F13.2.2 c14
      refine g_aald C 25 8 53 1 dX11_block_82 hC F13.1 F13.2.1 F13.2.2 c14 (by decide) oA_ends ?_
      refine g_getf C (k := 0) (kd := 0) okX8 (by decide) kf_RX11_130 dX11_block_83 (rg_ hC F15.1) F15.2.1 rfl ?_
      refine g_bipush C (n := 7) dX11_block_86 (by decide) ?_
      refine g_isub C dX11_block_88 ?_
      cases h
      exact g_iret C dX11_block_89 hr hlk
    replace h := if_f h c10
    by_cases c16 : x2 = 2
    · replace h := if_t h c16
      refine g_tin C 90 dX11_block_14 2 c16 (by decide) (by decide) rfl rfl ?_
      refine g_aload_n C (f := 0) dX11_block_90 0 rfl ?_
      have F17 := fX11_6 hC T0.1 T0.2.1
      refine g_getR C (k := 6) (o := 139) okX11 (by decide) kf_RX11_37 dX11_block_91 hC T0.1 T0.2.1 rfl rfl ?_
      refine g_iload_n C (f := 1) dX11_block_94 1 rfl ?_
      obtain ⟨q18, eq18, h⟩ := bd_e h
      refine g_cV C [(0, x1)] (cX7_begunOf_ok l hC F17 eq18) okX7 F17.2.1 (rg_ hC F17.1) km_RX11_135 cv_X7_begunOf rfl (by decide) rfl rfl (Nat.le_of_ble_eq_true rfl) dX11_block_95 ?_
      cases h
      exact g_iret C dX11_block_98 hr hlk
    replace h := if_f h c16
    by_cases c19 : x2 = 3
    · replace h := if_t h c19
      refine g_tin C 99 dX11_block_14 3 c19 (by decide) (by decide) rfl rfl ?_
      refine g_aload_n C (f := 0) dX11_block_99 0 rfl ?_
      obtain ⟨c20, h⟩ := ck_e h
      refine g_getf C (k := 4) (kd := 2) okX11 (by decide) kf_RX11_27 dX11_block_100 (rg_ hC T0.1) T0.2.1 rfl ?_
      have F21 := pgF_ hG c20
      refine g_iload_n C (f := 1) dX11_block_103 1 rfl ?_
      refine g_iload_n C (f := 2) dX11_block_104 2 rfl ?_
      refine g_iconst C (n := 3) dX11_block_105 (by decide) ?_
      refine g_isub C dX11_block_106 ?_
      obtain ⟨q22, eq22, h⟩ := bd_e h
      refine g_cV C [(0, x1), (0, wr_ (x2 - 3))] (cX5_leadsTo_ok l hC F21 eq22) okX5 F21.2.1 (rg_ hC F21.1) km_RX11_138 cv_X5_leadsTo rfl (by decide) rfl rfl (Nat.le_of_ble_eq_true rfl) dX11_block_107 ?_
      cases h
      exact g_iret C dX11_block_110 hr hlk
    replace h := if_f h c19
    by_cases c23 : x2 = 4
    · replace h := if_t h c23
      refine g_tin C 99 dX11_block_14 4 c23 (by decide) (by decide) rfl rfl ?_
      refine g_aload_n C (f := 0) dX11_block_99 0 rfl ?_
      obtain ⟨c24, h⟩ := ck_e h
      refine g_getf C (k := 4) (kd := 2) okX11 (by decide) kf_RX11_27 dX11_block_100 (rg_ hC T0.1) T0.2.1 rfl ?_
      have F25 := pgF_ hG c24
      refine g_iload_n C (f := 1) dX11_block_103 1 rfl ?_
      refine g_iload_n C (f := 2) dX11_block_104 2 rfl ?_
      refine g_iconst C (n := 3) dX11_block_105 (by decide) ?_
      refine g_isub C dX11_block_106 ?_
      obtain ⟨q26, eq26, h⟩ := bd_e h
      refine g_cV C [(0, x1), (0, wr_ (x2 - 3))] (cX5_leadsTo_ok l hC F25 eq26) okX5 F25.2.1 (rg_ hC F25.1) km_RX11_138 cv_X5_leadsTo rfl (by decide) rfl rfl (Nat.le_of_ble_eq_true rfl) dX11_block_107 ?_
      cases h
      exact g_iret C dX11_block_110 hr hlk
    replace h := if_f h c23
    by_cases c27 : x2 = 5
    · replace h := if_t h c27
      refine g_tin C 111 dX11_block_14 5 c27 (by decide) (by decide) rfl rfl ?_
      refine g_aload_n C (f := 0) dX11_block_111 0 rfl ?_
      obtain ⟨c28, h⟩ := ck_e h
      refine g_getf C (k := 4) (kd := 2) okX11 (by decide) kf_RX11_27 dX11_block_112 (rg_ hC T0.1) T0.2.1 rfl ?_
      have F29 := pgF_ hG c28
      have F30 := fX5_5 hC F29.1 F29.2.1
      refine g_getR C (k := 5) (o := 5) okX5 (by decide) kf_RX11_142 dX11_block_115 hC F29.1 F29.2.1 rfl rfl ?_
      refine g_iload_n C (f := 1) dX11_block_118 1 rfl ?_
      obtain ⟨c31, h⟩ := ck_e h
      refine g_iald C 8 dX11_block_119 (rg_ hC F30.1) F30.2.1 F30.2.2 c31 ?_
      cases h
      exact g_iret C dX11_block_120 hr hlk
    replace h := if_f h c27
    by_cases c32 : x2 = 6
    · replace h := if_t h c32
      refine g_tin C 121 dX11_block_14 6 c32 (by decide) (by decide) rfl rfl ?_
      refine g_aload_n C (f := 0) dX11_block_121 0 rfl ?_
      obtain ⟨q33, eq33, h⟩ := bd_e h
      refine g_cV C [] (cX11_knownPlan_ok l hC hG T0 eq33) okX11 T0.2.1 (rg_ hC T0.1) km_RX11_145 cv_X11_knownPlan rfl (by decide) rfl rfl (Nat.le_of_ble_eq_true rfl) dX11_block_122 ?_
      have F34 := rX11_knownPlan_ok hC hG T0 eq33
      refine g_iload_n C (f := 1) dX11_block_125 1 rfl ?_
      obtain ⟨q35, eq35, h⟩ := bd_e h
      refine g_cV C [(0, x1)] (cX4_traceOf_ok l hC F34 eq35) okX4 F34.2.1 (rg_ hC F34.1) km_RX11_149 cv_X4_traceOf rfl (by decide) rfl rfl (Nat.le_of_ble_eq_true rfl) dX11_block_126 ?_
      cases h
      exact g_iret C dX11_block_129 hr hlk
    replace h := if_f h c32
    by_cases c36 : x2 = 7
    · replace h := if_t h c36
      refine g_tin C 130 dX11_block_14 7 c36 (by decide) (by decide) rfl rfl ?_
      refine g_aload_n C (f := 0) dX11_block_130 0 rfl ?_
      obtain ⟨q37, eq37, h⟩ := bd_e h
      refine g_cV C [] (cX11_knownPlan_ok l hC hG T0 eq37) okX11 T0.2.1 (rg_ hC T0.1) km_RX11_145 cv_X11_knownPlan rfl (by decide) rfl rfl (Nat.le_of_ble_eq_true rfl) dX11_block_131 ?_
      have F38 := rX11_knownPlan_ok hC hG T0 eq37
      refine g_iload_n C (f := 1) dX11_block_134 1 rfl ?_
      obtain ⟨q39, eq39, h⟩ := bd_e h
      refine g_cV C [(0, x1)] (cX4_placeOf_ok l hC F38 eq39) okX4 F38.2.1 (rg_ hC F38.1) km_RX11_152 cv_X4_placeOf rfl (by decide) rfl rfl (Nat.le_of_ble_eq_true rfl) dX11_block_135 ?_
      cases h
      exact g_iret C dX11_block_138 hr hlk
    replace h := if_f h c36
    by_cases c40 : x2 = 8
    · replace h := if_t h c40
      refine g_tin C 139 dX11_block_14 8 c40 (by decide) (by decide) rfl rfl ?_
      refine g_aload_n C (f := 0) dX11_block_139 0 rfl ?_
      obtain ⟨q41, eq41, h⟩ := bd_e h
      refine g_cV C [] (cX11_knownPlan_ok l hC hG T0 eq41) okX11 T0.2.1 (rg_ hC T0.1) km_RX11_145 cv_X11_knownPlan rfl (by decide) rfl rfl (Nat.le_of_ble_eq_true rfl) dX11_block_140 ?_
      have F42 := rX11_knownPlan_ok hC hG T0 eq41
      refine g_iload_n C (f := 1) dX11_block_143 1 rfl ?_
      obtain ⟨q43, eq43, h⟩ := bd_e h
      refine g_cV C [(0, x1)] (cX4_joins_ok l hC F42 eq43) okX4 F42.2.1 (rg_ hC F42.1) km_RX11_155 cv_X4_joins rfl (by decide) rfl rfl (Nat.le_of_ble_eq_true rfl) dX11_block_144 ?_
      refine g_if_eq C 154 dX11_block_147 rfl (fun c44 => ?_) (fun c44 => ?_)
      · replace h := if_t h c44
        refine g_iconst C (n := 0) dX11_block_154 (by decide) ?_
        cases h
        exact g_iret C dX11_block_155 hr hlk
      · replace h := if_f h c44
        refine g_iconst C (n := 1) dX11_block_150 (by decide) ?_
        refine g_goto C 155 dX11_block_151 rfl ?_
        cases h
        exact g_iret C dX11_block_155 hr hlk
    replace h := if_f h c40
    refine g_tdef C (x := x2) 156 dX11_block_14 (by intro a ha h1 h2; exact absurd h2 (by omega)) rfl ?_
    refine g_iconst C (n := (-1)) dX11_block_156 (by decide) ?_
    cases h
    exact g_iret C dX11_block_157 hr hlk
  · replace h := if_t h c4
    refine g_iconst C (n := (-1)) dX11_block_11 (by decide) ?_
    cases h
    exact g_iret C dX11_block_12 hr hlk
theorem dX11_isKind_0 : decode cX11_isKind 0 = .ok (.iload_n 0, 1) := by decide +kernel
theorem dX11_isKind_1 : decode cX11_isKind 1 = .ok (.ifCond .lt 12, 3) := by decide +kernel
theorem dX11_isKind_4 : decode cX11_isKind 4 = .ok (.iload_n 0, 1) := by decide +kernel
theorem dX11_isKind_5 : decode cX11_isKind 5 = .ok (.iconst 4, 1) := by decide +kernel
theorem dX11_isKind_6 : decode cX11_isKind 6 = .ok (.if_icmp .ge 7, 3) := by decide +kernel
theorem dX11_isKind_9 : decode cX11_isKind 9 = .ok (.iconst 1, 1) := by decide +kernel
theorem dX11_isKind_10 : decode cX11_isKind 10 = .ok (.goto 4, 3) := by decide +kernel
theorem dX11_isKind_13 : decode cX11_isKind 13 = .ok (.iconst 0, 1) := by decide +kernel
theorem dX11_isKind_14 : decode cX11_isKind 14 = .ok (.ireturn, 1) := by decide +kernel
def fX11_isKind (x0 : Int) (v : V_) : Option (Int × V_) :=
  if x0 < 0 then (
    some (0, v))
  else (
    if 4 ≤ x0 then (
      some (0, v))
    else (
      some (1, v)))
theorem cX11_isKind_ok (l : Launch) {E : En_} {sz : Int} (hC : Cl_ E.2.2.2.2.2 sz) {x0 : Int} {v : V_} {out : Int × V_} (h : fX11_isKind x0 v = some out) : Met l yX11_isKind [.code yX11_isKind cX11_isKind 1 (some FieldType.boolean)] (rm_ 0 0) (Pc_ E sz v [(0, x0)]) (Qc_ E sz 0 out.1 out.2) 0 0 (fun q => E.1 < q) := by
  refine met_G0 RX11 (by decide +kernel) rfl (Nat.le_of_ble_eq_true rfl) ?_
  intro p e s m args below meth c C hr hlk
  rw [fX11_isKind] at h
  refine g_iload_n C (f := 0) dX11_isKind_0 0 rfl ?_
  refine g_if_lt C 13 dX11_isKind_1 rfl (fun c1 => ?_) (fun c1 => ?_)
  · replace h := if_t h c1
    refine g_iconst C (n := 0) dX11_isKind_13 (by decide) ?_
    cases h
    exact g_zret C dX11_isKind_14 hr hlk (Or.inl rfl)
  · replace h := if_f h c1
    refine g_iload_n C (f := 0) dX11_isKind_4 0 rfl ?_
    refine g_iconst C (n := 4) dX11_isKind_5 (by decide) ?_
    refine g_icmp_ge C 13 dX11_isKind_6 rfl (fun c2 => ?_) (fun c2 => ?_)
    · replace h := if_t h c2
      refine g_iconst C (n := 0) dX11_isKind_13 (by decide) ?_
      cases h
      exact g_zret C dX11_isKind_14 hr hlk (Or.inl rfl)
    · replace h := if_f h c2
      refine g_iconst C (n := 1) dX11_isKind_9 (by decide) ?_
      refine g_goto C 14 dX11_isKind_10 rfl ?_
      cases h
      exact g_zret C dX11_isKind_14 hr hlk (Or.inr rfl)
theorem dX11_busy_0 : decode cX11_busy 0 = .ok (.aload_n 0, 1) := by decide +kernel
theorem dX11_busy_1 : decode cX11_busy 1 = .ok (.invokevirtual 145, 3) := by decide +kernel
theorem dX11_busy_4 : decode cX11_busy 4 = .ok (.iload_n 1, 1) := by decide +kernel
theorem dX11_busy_5 : decode cX11_busy 5 = .ok (.invokevirtual 227, 3) := by decide +kernel
theorem dX11_busy_8 : decode cX11_busy 8 = .ok (.astore 4, 2) := by decide +kernel
theorem dX11_busy_10 : decode cX11_busy 10 = .ok (.aload 4, 2) := by decide +kernel
theorem dX11_busy_12 : decode cX11_busy 12 = .ok (.ifnull 23, 3) := by decide +kernel
theorem dX11_busy_15 : decode cX11_busy 15 = .ok (.iload_n 2, 1) := by decide +kernel
theorem dX11_busy_16 : decode cX11_busy 16 = .ok (.ifCond .lt 19, 3) := by decide +kernel
theorem dX11_busy_19 : decode cX11_busy 19 = .ok (.iload_n 2, 1) := by decide +kernel
theorem dX11_busy_20 : decode cX11_busy 20 = .ok (.aload 4, 2) := by decide +kernel
theorem dX11_busy_22 : decode cX11_busy 22 = .ok (.getfield 237, 3) := by decide +kernel
theorem dX11_busy_25 : decode cX11_busy 25 = .ok (.if_icmp .ge 10, 3) := by decide +kernel
theorem dX11_busy_28 : decode cX11_busy 28 = .ok (.iload_n 3, 1) := by decide +kernel
theorem dX11_busy_29 : decode cX11_busy 29 = .ok (.invokestatic 110, 3) := by decide +kernel
theorem dX11_busy_32 : decode cX11_busy 32 = .ok (.ifCond .ne 5, 3) := by decide +kernel
theorem dX11_busy_35 : decode cX11_busy 35 = .ok (.iconst (-1), 1) := by decide +kernel
theorem dX11_busy_36 : decode cX11_busy 36 = .ok (.ireturn, 1) := by decide +kernel
theorem dX11_busy_37 : decode cX11_busy 37 = .ok (.iconst 0, 1) := by decide +kernel
theorem dX11_busy_38 : decode cX11_busy 38 = .ok (.istore 5, 2) := by decide +kernel
theorem dX11_busy_40 : decode cX11_busy 40 = .ok (.iconst 0, 1) := by decide +kernel
theorem dX11_busy_41 : decode cX11_busy 41 = .ok (.istore 6, 2) := by decide +kernel
theorem dX11_busy_43 : decode cX11_busy 43 = .ok (.iload 6, 2) := by decide +kernel
theorem dX11_busy_45 : decode cX11_busy 45 = .ok (.aload 4, 2) := by decide +kernel
theorem dX11_busy_47 : decode cX11_busy 47 = .ok (.getfield 234, 3) := by decide +kernel
theorem dX11_busy_50 : decode cX11_busy 50 = .ok (.if_icmp .ge 45, 3) := by decide +kernel
theorem dX11_busy_53 : decode cX11_busy 53 = .ok (.aload 4, 2) := by decide +kernel
theorem dX11_busy_55 : decode cX11_busy 55 = .ok (.getfield 303, 3) := by decide +kernel
theorem dX11_busy_58 : decode cX11_busy 58 = .ok (.iload 6, 2) := by decide +kernel
theorem dX11_busy_60 : decode cX11_busy 60 = .ok (.aaload, 1) := by decide +kernel
theorem dX11_busy_61 : decode cX11_busy 61 = .ok (.getfield 273, 3) := by decide +kernel
theorem dX11_busy_64 : decode cX11_busy 64 = .ok (.iload_n 2, 1) := by decide +kernel
theorem dX11_busy_65 : decode cX11_busy 65 = .ok (.if_icmp .ne 24, 3) := by decide +kernel
theorem dX11_busy_68 : decode cX11_busy 68 = .ok (.aload 4, 2) := by decide +kernel
theorem dX11_busy_70 : decode cX11_busy 70 = .ok (.getfield 303, 3) := by decide +kernel
theorem dX11_busy_73 : decode cX11_busy 73 = .ok (.iload 6, 2) := by decide +kernel
theorem dX11_busy_75 : decode cX11_busy 75 = .ok (.aaload, 1) := by decide +kernel
theorem dX11_busy_76 : decode cX11_busy 76 = .ok (.getfield 279, 3) := by decide +kernel
theorem dX11_busy_79 : decode cX11_busy 79 = .ok (.invokevirtual 283, 3) := by decide +kernel
theorem dX11_busy_82 : decode cX11_busy 82 = .ok (.iload_n 3, 1) := by decide +kernel
theorem dX11_busy_83 : decode cX11_busy 83 = .ok (.if_icmp .ne 6, 3) := by decide +kernel
theorem dX11_busy_86 : decode cX11_busy 86 = .ok (.iinc 5 1, 3) := by decide +kernel
theorem dX11_busy_89 : decode cX11_busy 89 = .ok (.iinc 6 1, 3) := by decide +kernel
theorem dX11_busy_92 : decode cX11_busy 92 = .ok (.goto (-49), 3) := by decide +kernel
theorem dX11_busy_95 : decode cX11_busy 95 = .ok (.iload 5, 2) := by decide +kernel
theorem dX11_busy_97 : decode cX11_busy 97 = .ok (.ireturn, 1) := by decide +kernel
def fX11_busy_43 : Nat → Int → Int → Int → Int → Int → V_ → Option (Int × V_)
  | 0, _, _, _, _, _, _ => none
  | n + 1, x2, x3, x4, x5, x6, v =>
    if (v x4 3) ≤ x6 then (
      some (x5, v))
    else (
      ck_ (0 ≤ x6 ∧ x6 < 34) (
      if (v ((x4 + 2) + (5 + 2 * x6)) 7) = x2 then (
        ck_ (0 ≤ x6 ∧ x6 < 34) (
        bd_ (fX8_kindOf (((x4 + 2) + (5 + 2 * x6)) + 1) v) fun q21 =>
        if q21.1 = x3 then (
          lt_ (wr_ (x5 + 1)) fun y24 =>
          lt_ (wr_ (x6 + 1)) fun y25 =>
          (fX11_busy_43 n) x2 x3 x4 y24 y25 q21.2)
        else (
          lt_ (wr_ (x6 + 1)) fun y23 =>
          (fX11_busy_43 n) x2 x3 x4 x5 y23 q21.2)))
      else (
        lt_ (wr_ (x6 + 1)) fun y16 =>
        (fX11_busy_43 n) x2 x3 x4 x5 y16 v)))
def fX11_busy (x0 x1 x2 x3 : Int) (v : V_) : Option (Int × V_) :=
  bd_ (fX11_knownPlan x0 v) fun q1 =>
  bd_ (fX4_traceAt q1.1 x1 q1.2) fun q3 =>
  if q3.1 = 0 then (
    some ((-1), q3.2))
  else (
    if x2 < 0 then (
      some ((-1), q3.2))
    else (
      if (q3.2 q3.1 9) ≤ x2 then (
        some ((-1), q3.2))
      else (
        bd_ (fX11_isKind x3 q3.2) fun q9 =>
        if q9.1 = 0 then (
          some ((-1), q9.2))
        else (
          fX11_busy_43 fu_ x2 x3 q3.1 0 0 q9.2))))
section
variable {E : En_} {p : Program} {l : Launch} {e : Env} {s : State} {m : MethodId} {args : Array Value} {below : List Frame} {meth : Method} {c : Code} {sz : Int}
theorem tX11_busy_43 (C : MC_ E p s m c cX11_busy 7 RX11) (hr : meth.sig.returnType = (some FieldType.int)) (hlk : meth.locks = false) (hC : Cl_ E.2.2.2.2.2 sz) (hG : Pg_ E.2.2.2.2.2) {out : Int × V_} : ∀ (n : Nat) (x2 x3 x4 x5 x6 : Int) (v : V_), (E.2.2.2.2.2 x4 ∧ ty_ x4 = 10 ∧ ln_ x4 = 0) → fX11_busy_43 n x2 x3 x4 x5 x6 v = some out → G_ E p l e (rm_ 6 143) s m args below meth c 7 sz (Q_ E below args s sz sz 0 out.1 out.2) 43 [(2, (0, x2)), (3, (0, x3)), (4, (2, x4)), (5, (0, x5)), (6, (0, x6))] [] v sz := by
  intro n
  induction n with
  | zero =>
    intro x2 x3 x4 x5 x6 v T4 h
    cases h
  | succ n H_43 =>
    intro x2 x3 x4 x5 x6 v T4 h
    rw [fX11_busy_43] at h
    refine g_iload C (i := 6) dX11_busy_43 4 rfl ?_
    refine g_aload C (i := 4) dX11_busy_45 2 rfl ?_
    refine g_getf C (k := 3) (kd := 0) okX10 (by decide) kf_RX11_234 dX11_busy_47 (rg_ hC T4.1) T4.2.1 rfl ?_
    refine g_icmp_ge C 95 dX11_busy_50 rfl (fun c11 => ?_) (fun c11 => ?_)
    · replace h := if_t h c11
      refine g_iload C (i := 5) dX11_busy_95 3 rfl ?_
      cases h
      exact g_iret C dX11_busy_97 hr hlk
    · replace h := if_f h c11
      refine g_aload C (i := 4) dX11_busy_53 2 rfl ?_
      have F12 := fX10_2 hC T4.1 T4.2.1
      refine g_getR C (k := 2) (o := 2) okX10 (by decide) kf_RX11_303 dX11_busy_55 hC T4.1 T4.2.1 rfl rfl ?_
      refine g_iload C (i := 6) dX11_busy_58 4 rfl ?_
      obtain ⟨c13, h⟩ := ck_e h
      have F14 := fE_items (i := x6) hC F12.1 F12.2.1 F12.2.2 c13
      refine g_aald C 26 34 5 2 dX11_busy_60 hC F12.1 F12.2.1 F12.2.2 c13 (by decide) oA_items ?_
      refine g_getf C (k := 7) (kd := 0) okX1 (by decide) kf_RX11_273 dX11_busy_61 (rg_ hC F14.1) F14.2.1 rfl ?_
      refine g_iload_n C (f := 2) dX11_busy_64 0 rfl ?_
      refine g_icmp_ne C 89 dX11_busy_65 rfl (fun c15 => ?_) (fun c15 => ?_)
      · replace h := if_f h c15
        obtain ⟨y16, ey16, h⟩ := lt_e h
        refine g_iincx C (ls' := [(6, (0, y16)), (2, (0, x2)), (3, (0, x3)), (4, (2, x4)), (5, (0, x5))]) ey16 dX11_busy_89 4 rfl (by decide) (by decide) rfl ?_
        refine g_goto C 43 dX11_busy_92 rfl ?_
        refine g_sub [1, 2, 3, 4, 0] rfl rfl ?_
        exact H_43 _ _ _ _ _ _ T4 h
      · replace h := if_t h c15
        refine g_aload C (i := 4) dX11_busy_68 2 rfl ?_
        have F17 := fX10_2 hC T4.1 T4.2.1
        refine g_getR C (k := 2) (o := 2) okX10 (by decide) kf_RX11_303 dX11_busy_70 hC T4.1 T4.2.1 rfl rfl ?_
        refine g_iload C (i := 6) dX11_busy_73 4 rfl ?_
        obtain ⟨c18, h⟩ := ck_e h
        have F19 := fE_items (i := x6) hC F17.1 F17.2.1 F17.2.2 c18
        refine g_aald C 26 34 5 2 dX11_busy_75 hC F17.1 F17.2.1 F17.2.2 c18 (by decide) oA_items ?_
        have F20 := fX1_0 hC F19.1 F19.2.1
        refine g_getR C (k := 0) (o := 1) okX1 (by decide) kf_RX11_279 dX11_busy_76 hC F19.1 F19.2.1 rfl rfl ?_
        obtain ⟨q21, eq21, h⟩ := bd_e h
        refine g_cV C [] (cX8_kindOf_ok l hC F20 eq21) okX8 F20.2.1 (rg_ hC F20.1) km_RX11_283 cv_X8_kindOf rfl (by decide) rfl rfl (Nat.le_of_ble_eq_true rfl) dX11_busy_79 ?_
        refine g_iload_n C (f := 3) dX11_busy_82 1 rfl ?_
        refine g_icmp_ne C 89 dX11_busy_83 rfl (fun c22 => ?_) (fun c22 => ?_)
        · replace h := if_f h c22
          obtain ⟨y23, ey23, h⟩ := lt_e h
          refine g_iincx C (ls' := [(6, (0, y23)), (2, (0, x2)), (3, (0, x3)), (4, (2, x4)), (5, (0, x5))]) ey23 dX11_busy_89 4 rfl (by decide) (by decide) rfl ?_
          refine g_goto C 43 dX11_busy_92 rfl ?_
          refine g_sub [1, 2, 3, 4, 0] rfl rfl ?_
          exact H_43 _ _ _ _ _ _ T4 h
        · replace h := if_t h c22
          obtain ⟨y24, ey24, h⟩ := lt_e h
          refine g_iincx C (ls' := [(5, (0, y24)), (2, (0, x2)), (3, (0, x3)), (4, (2, x4)), (6, (0, x6))]) ey24 dX11_busy_86 3 rfl (by decide) (by decide) rfl ?_
          obtain ⟨y25, ey25, h⟩ := lt_e h
          refine g_iincx C (ls' := [(6, (0, y25)), (5, (0, y24)), (2, (0, x2)), (3, (0, x3)), (4, (2, x4))]) ey25 dX11_busy_89 4 rfl (by decide) (by decide) rfl ?_
          refine g_goto C 43 dX11_busy_92 rfl ?_
          refine g_sub [2, 3, 4, 1, 0] rfl rfl ?_
          exact H_43 _ _ _ _ _ _ T4 h
end
theorem cX11_busy_ok (l : Launch) {E : En_} {sz : Int} (hC : Cl_ E.2.2.2.2.2 sz) (hG : Pg_ E.2.2.2.2.2) {x0 x1 x2 x3 : Int} {v : V_} {out : Int × V_} (T0 : (E.2.2.2.2.2 x0 ∧ ty_ x0 = 11 ∧ ln_ x0 = 0)) (h : fX11_busy x0 x1 x2 x3 v = some out) : Met l yX11_busy [.code yX11_busy cX11_busy 7 (some FieldType.int)] (rm_ 6 143) (Pc_ E sz v [(2, x0), (0, x1), (0, x2), (0, x3)]) (Qc_ E sz 0 out.1 out.2) 0 0 (fun q => E.1 < q) := by
  refine met_G0 RX11 (by decide +kernel) rfl (Nat.le_of_ble_eq_true rfl) ?_
  intro p e s m args below meth c C hr hlk
  rw [fX11_busy] at h
  refine g_aload_n C (f := 0) dX11_busy_0 0 rfl ?_
  obtain ⟨q1, eq1, h⟩ := bd_e h
  refine g_cV C [] (cX11_knownPlan_ok l hC hG T0 eq1) okX11 T0.2.1 (rg_ hC T0.1) km_RX11_145 cv_X11_knownPlan rfl (by decide) rfl rfl (Nat.le_of_ble_eq_true rfl) dX11_busy_1 ?_
  have F2 := rX11_knownPlan_ok hC hG T0 eq1
  refine g_iload_n C (f := 1) dX11_busy_4 1 rfl ?_
  obtain ⟨q3, eq3, h⟩ := bd_e h
  refine g_cV C [(0, x1)] (cX4_traceAt_ok l hC F2 eq3) okX4 F2.2.1 (rg_ hC F2.1) km_RX11_227 cv_X4_traceAt rfl (by decide) rfl rfl (Nat.le_of_ble_eq_true rfl) dX11_busy_5 ?_
  have F4 := rX4_traceAt_ok hC F2 eq3
  refine g_astore C (i := 4) (ls' := [(4, (2, q3.1)), (0, (2, x0)), (1, (0, x1)), (2, (0, x2)), (3, (0, x3))]) dX11_busy_8 (by decide) rfl ?_
  refine g_aload C (i := 4) dX11_busy_10 0 rfl ?_
  refine g_ifnull C 35 dX11_busy_12 rfl (fun c5 => ?_) (fun c5 => ?_)
  · replace h := if_t h c5
    refine g_iconst C (n := (-1)) dX11_busy_35 (by decide) ?_
    cases h
    exact g_iret C dX11_busy_36 hr hlk
  · replace h := if_f h c5
    have F6 := Or.resolve_left F4 c5
    refine g_iload_n C (f := 2) dX11_busy_15 3 rfl ?_
    refine g_if_lt C 35 dX11_busy_16 rfl (fun c7 => ?_) (fun c7 => ?_)
    · replace h := if_t h c7
      refine g_iconst C (n := (-1)) dX11_busy_35 (by decide) ?_
      cases h
      exact g_iret C dX11_busy_36 hr hlk
    · replace h := if_f h c7
      refine g_iload_n C (f := 2) dX11_busy_19 3 rfl ?_
      refine g_aload C (i := 4) dX11_busy_20 0 rfl ?_
      refine g_getf C (k := 9) (kd := 0) okX10 (by decide) kf_RX11_237 dX11_busy_22 (rg_ hC F6.1) F6.2.1 rfl ?_
      refine g_icmp_ge C 35 dX11_busy_25 rfl (fun c8 => ?_) (fun c8 => ?_)
      · replace h := if_t h c8
        refine g_iconst C (n := (-1)) dX11_busy_35 (by decide) ?_
        cases h
        exact g_iret C dX11_busy_36 hr hlk
      · replace h := if_f h c8
        refine g_iload_n C (f := 3) dX11_busy_28 4 rfl ?_
        obtain ⟨q9, eq9, h⟩ := bd_e h
        refine g_cS C [(0, x3)] (cX11_isKind_ok l hC eq9) km_RX11_110 cs_X11_isKind rfl (by decide) rfl rfl (Nat.le_of_ble_eq_true rfl) dX11_busy_29 ?_
        refine g_if_ne C 37 dX11_busy_32 rfl (fun c10 => ?_) (fun c10 => ?_)
        · replace h := if_f h c10
          refine g_iconst C (n := 0) dX11_busy_37 (by decide) ?_
          refine g_istore C (i := 5) (ls' := [(5, (0, 0)), (4, (2, q3.1)), (0, (2, x0)), (1, (0, x1)), (2, (0, x2)), (3, (0, x3))]) dX11_busy_38 (by decide) rfl ?_
          refine g_iconst C (n := 0) dX11_busy_40 (by decide) ?_
          refine g_istore C (i := 6) (ls' := [(6, (0, 0)), (5, (0, 0)), (4, (2, q3.1)), (0, (2, x0)), (1, (0, x1)), (2, (0, x2)), (3, (0, x3))]) dX11_busy_41 (by decide) rfl ?_
          refine g_sub [5, 6, 2, 1, 0] rfl rfl ?_
          exact tX11_busy_43 C hr hlk hC hG _ _ _ _ _ _ _ F6 h
        · replace h := if_t h c10
          refine g_iconst C (n := (-1)) dX11_busy_35 (by decide) ?_
          cases h
          exact g_iret C dX11_busy_36 hr hlk
theorem dX11_cell_0 : decode cX11_cell 0 = .ok (.iload_n 1, 1) := by decide +kernel
theorem dX11_cell_1 : decode cX11_cell 1 = .ok (.invokestatic 104, 3) := by decide +kernel
theorem dX11_cell_4 : decode cX11_cell 4 = .ok (.ifCond .eq 14, 3) := by decide +kernel
theorem dX11_cell_7 : decode cX11_cell 7 = .ok (.aload_n 0, 1) := by decide +kernel
theorem dX11_cell_8 : decode cX11_cell 8 = .ok (.getfield 37, 3) := by decide +kernel
theorem dX11_cell_11 : decode cX11_cell 11 = .ok (.iload_n 1, 1) := by decide +kernel
theorem dX11_cell_12 : decode cX11_cell 12 = .ok (.invokevirtual 107, 3) := by decide +kernel
theorem dX11_cell_15 : decode cX11_cell 15 = .ok (.goto 4, 3) := by decide +kernel
theorem dX11_cell_18 : decode cX11_cell 18 = .ok (.iconst 0, 1) := by decide +kernel
theorem dX11_cell_19 : decode cX11_cell 19 = .ok (.ireturn, 1) := by decide +kernel
def fX11_cell (x0 x1 : Int) (v : V_) : Option (Int × V_) :=
  bd_ (fX11_isCell x1 v) fun q1 =>
  if q1.1 = 0 then (
    some (0, q1.2))
  else (
    bd_ (fX7_cellAt (x0 + 139) x1 q1.2) fun q4 =>
    some (q4.1, q4.2))
theorem cX11_cell_ok (l : Launch) {E : En_} {sz : Int} (hC : Cl_ E.2.2.2.2.2 sz) (hG : Pg_ E.2.2.2.2.2) {x0 x1 : Int} {v : V_} {out : Int × V_} (T0 : (E.2.2.2.2.2 x0 ∧ ty_ x0 = 11 ∧ ln_ x0 = 0)) (h : fX11_cell x0 x1 v = some out) : Met l yX11_cell [.code yX11_cell cX11_cell 2 (some FieldType.int)] (rm_ 1 21) (Pc_ E sz v [(2, x0), (0, x1)]) (Qc_ E sz 0 out.1 out.2) 0 0 (fun q => E.1 < q) := by
  refine met_G0 RX11 (by decide +kernel) rfl (Nat.le_of_ble_eq_true rfl) ?_
  intro p e s m args below meth c C hr hlk
  rw [fX11_cell] at h
  refine g_iload_n C (f := 1) dX11_cell_0 1 rfl ?_
  obtain ⟨q1, eq1, h⟩ := bd_e h
  refine g_cS C [(0, x1)] (cX11_isCell_ok l hC eq1) km_RX11_104 cs_X11_isCell rfl (by decide) rfl rfl (Nat.le_of_ble_eq_true rfl) dX11_cell_1 ?_
  refine g_if_eq C 18 dX11_cell_4 rfl (fun c2 => ?_) (fun c2 => ?_)
  · replace h := if_t h c2
    refine g_iconst C (n := 0) dX11_cell_18 (by decide) ?_
    cases h
    exact g_iret C dX11_cell_19 hr hlk
  · replace h := if_f h c2
    refine g_aload_n C (f := 0) dX11_cell_7 0 rfl ?_
    have F3 := fX11_6 hC T0.1 T0.2.1
    refine g_getR C (k := 6) (o := 139) okX11 (by decide) kf_RX11_37 dX11_cell_8 hC T0.1 T0.2.1 rfl rfl ?_
    refine g_iload_n C (f := 1) dX11_cell_11 1 rfl ?_
    obtain ⟨q4, eq4, h⟩ := bd_e h
    refine g_cV C [(0, x1)] (cX7_cellAt_ok l hC F3 eq4) okX7 F3.2.1 (rg_ hC F3.1) km_RX11_107 cv_X7_cellAt rfl (by decide) rfl rfl (Nat.le_of_ble_eq_true rfl) dX11_cell_12 ?_
    refine g_goto C 19 dX11_cell_15 rfl ?_
    cases h
    exact g_iret C dX11_cell_19 hr hlk
theorem dX11_forgetRuns_0 : decode cX11_forgetRuns 0 = .ok (.aload_n 0, 1) := by decide +kernel
theorem dX11_forgetRuns_1 : decode cX11_forgetRuns 1 = .ok (.iconst 0, 1) := by decide +kernel
theorem dX11_forgetRuns_2 : decode cX11_forgetRuns 2 = .ok (.putfield 364, 3) := by decide +kernel
theorem dX11_forgetRuns_5 : decode cX11_forgetRuns 5 = .ok (.aload_n 0, 1) := by decide +kernel
theorem dX11_forgetRuns_6 : decode cX11_forgetRuns 6 = .ok (.iconst 0, 1) := by decide +kernel
theorem dX11_forgetRuns_7 : decode cX11_forgetRuns 7 = .ok (.putfield 367, 3) := by decide +kernel
theorem dX11_forgetRuns_10 : decode cX11_forgetRuns 10 = .ok (.return_, 1) := by decide +kernel
def fX11_forgetRuns (x0 : Int) (v : V_) : Option (Int × V_) :=
  lt_ (up_ v x0 12 0) fun v1 =>
  lt_ (up_ v1 x0 13 0) fun v2 =>
  some (0, v2)
theorem cX11_forgetRuns_ok (l : Launch) {E : En_} {sz : Int} (hC : Cl_ E.2.2.2.2.2 sz) (hG : Pg_ E.2.2.2.2.2) {x0 : Int} {v : V_} {out : Int × V_} (T0 : (E.2.2.2.2.2 x0 ∧ ty_ x0 = 11 ∧ ln_ x0 = 0)) (h : fX11_forgetRuns x0 v = some out) : Met l yX11_forgetRuns [.code yX11_forgetRuns cX11_forgetRuns 1 (none : Option FieldType)] (rm_ 0 0) (Pc_ E sz v [(2, x0)]) (Qc_ E sz 9 out.1 out.2) 0 0 (fun q => E.1 < q) := by
  refine met_G0 RX11 (by decide +kernel) rfl (Nat.le_of_ble_eq_true rfl) ?_
  intro p e s m args below meth c C hr hlk
  rw [fX11_forgetRuns] at h
  refine g_aload_n C (f := 0) dX11_forgetRuns_0 0 rfl ?_
  refine g_iconst C (n := 0) dX11_forgetRuns_1 (by decide) ?_
  obtain ⟨v1, ev1, h⟩ := lt_e h
  refine g_putf C (k := 12) (kd := 0) okX11 (by decide) kf_RX11_364 dX11_forgetRuns_2 (rg_ hC T0.1) T0.2.1 rfl rfl (nvZ (Or.inl rfl)) (Or.inl rfl) v1 ev1 ?_
  refine g_aload_n C (f := 0) dX11_forgetRuns_5 0 rfl ?_
  refine g_iconst C (n := 0) dX11_forgetRuns_6 (by decide) ?_
  obtain ⟨v2, ev2, h⟩ := lt_e h
  refine g_putf C (k := 13) (kd := 0) okX11 (by decide) kf_RX11_367 dX11_forgetRuns_7 (rg_ hC T0.1) T0.2.1 rfl rfl (nvZ (Or.inl rfl)) (Or.inl rfl) v2 ev2 ?_
  cases h
  exact g_vret C dX11_forgetRuns_10 hr hlk
theorem dX11_forgetAll_0 : decode cX11_forgetAll 0 = .ok (.aload_n 0, 1) := by decide +kernel
theorem dX11_forgetAll_1 : decode cX11_forgetAll 1 = .ok (.iconst 0, 1) := by decide +kernel
theorem dX11_forgetAll_2 : decode cX11_forgetAll 2 = .ok (.putfield 370, 3) := by decide +kernel
theorem dX11_forgetAll_5 : decode cX11_forgetAll 5 = .ok (.aload_n 0, 1) := by decide +kernel
theorem dX11_forgetAll_6 : decode cX11_forgetAll 6 = .ok (.invokevirtual 172, 3) := by decide +kernel
theorem dX11_forgetAll_9 : decode cX11_forgetAll 9 = .ok (.return_, 1) := by decide +kernel
def fX11_forgetAll (x0 : Int) (v : V_) : Option (Int × V_) :=
  lt_ (up_ v x0 11 0) fun v1 =>
  bd_ (fX11_forgetRuns x0 v1) fun q2 =>
  some (0, q2.2)
theorem cX11_forgetAll_ok (l : Launch) {E : En_} {sz : Int} (hC : Cl_ E.2.2.2.2.2 sz) (hG : Pg_ E.2.2.2.2.2) {x0 : Int} {v : V_} {out : Int × V_} (T0 : (E.2.2.2.2.2 x0 ∧ ty_ x0 = 11 ∧ ln_ x0 = 0)) (h : fX11_forgetAll x0 v = some out) : Met l yX11_forgetAll [.code yX11_forgetAll cX11_forgetAll 1 (none : Option FieldType)] (rm_ 1 20) (Pc_ E sz v [(2, x0)]) (Qc_ E sz 9 out.1 out.2) 0 0 (fun q => E.1 < q) := by
  refine met_G0 RX11 (by decide +kernel) rfl (Nat.le_of_ble_eq_true rfl) ?_
  intro p e s m args below meth c C hr hlk
  rw [fX11_forgetAll] at h
  refine g_aload_n C (f := 0) dX11_forgetAll_0 0 rfl ?_
  refine g_iconst C (n := 0) dX11_forgetAll_1 (by decide) ?_
  obtain ⟨v1, ev1, h⟩ := lt_e h
  refine g_putf C (k := 11) (kd := 0) okX11 (by decide) kf_RX11_370 dX11_forgetAll_2 (rg_ hC T0.1) T0.2.1 rfl rfl (nvZ (Or.inl rfl)) (Or.inl rfl) v1 ev1 ?_
  refine g_aload_n C (f := 0) dX11_forgetAll_5 0 rfl ?_
  obtain ⟨q2, eq2, h⟩ := bd_e h
  refine g_cV C [] (cX11_forgetRuns_ok l hC hG T0 eq2) okX11 T0.2.1 (rg_ hC T0.1) km_RX11_172 cv_X11_forgetRuns rfl (by decide) rfl rfl (Nat.le_of_ble_eq_true rfl) dX11_forgetAll_6 ?_
  cases h
  exact g_vret C dX11_forgetAll_9 hr hlk
theorem dX11_clear_0 : decode cX11_clear 0 = .ok (.aload_n 0, 1) := by decide +kernel
theorem dX11_clear_1 : decode cX11_clear 1 = .ok (.getfield 37, 3) := by decide +kernel
theorem dX11_clear_4 : decode cX11_clear 4 = .ok (.invokevirtual 202, 3) := by decide +kernel
theorem dX11_clear_7 : decode cX11_clear 7 = .ok (.istore_n 1, 1) := by decide +kernel
theorem dX11_clear_8 : decode cX11_clear 8 = .ok (.iload_n 1, 1) := by decide +kernel
theorem dX11_clear_9 : decode cX11_clear 9 = .ok (.ifCond .ne 5, 3) := by decide +kernel
theorem dX11_clear_12 : decode cX11_clear 12 = .ok (.iconst (-1), 1) := by decide +kernel
theorem dX11_clear_13 : decode cX11_clear 13 = .ok (.ireturn, 1) := by decide +kernel
theorem dX11_clear_14 : decode cX11_clear 14 = .ok (.aload_n 0, 1) := by decide +kernel
theorem dX11_clear_15 : decode cX11_clear 15 = .ok (.getfield 44, 3) := by decide +kernel
theorem dX11_clear_18 : decode cX11_clear 18 = .ok (.aload_n 0, 1) := by decide +kernel
theorem dX11_clear_19 : decode cX11_clear 19 = .ok (.getfield 37, 3) := by decide +kernel
theorem dX11_clear_22 : decode cX11_clear 22 = .ok (.invokevirtual 164, 3) := by decide +kernel
theorem dX11_clear_25 : decode cX11_clear 25 = .ok (.aload_n 0, 1) := by decide +kernel
theorem dX11_clear_26 : decode cX11_clear 26 = .ok (.getfield 37, 3) := by decide +kernel
theorem dX11_clear_29 : decode cX11_clear 29 = .ok (.invokevirtual 205, 3) := by decide +kernel
theorem dX11_clear_32 : decode cX11_clear 32 = .ok (.aload_n 0, 1) := by decide +kernel
theorem dX11_clear_33 : decode cX11_clear 33 = .ok (.invokevirtual 93, 3) := by decide +kernel
theorem dX11_clear_36 : decode cX11_clear 36 = .ok (.iload_n 1, 1) := by decide +kernel
theorem dX11_clear_37 : decode cX11_clear 37 = .ok (.ireturn, 1) := by decide +kernel
def fX11_clear (x0 : Int) (v : V_) : Option (Int × V_) :=
  bd_ (fX7_allBegun (x0 + 139) v) fun q2 =>
  if q2.1 = 0 then (
    some ((-1), q2.2))
  else (
    bd_ (fX0_note (x0 + 141) (x0 + 139) q2.2) fun q6 =>
    bd_ (fX7_clearCounts (x0 + 139) q6.2) fun q8 =>
    bd_ (fX11_forgetAll x0 q8.2) fun q9 =>
    some (q2.1, q9.2))
theorem cX11_clear_ok (l : Launch) {E : En_} {sz : Int} (hC : Cl_ E.2.2.2.2.2 sz) (hG : Pg_ E.2.2.2.2.2) {x0 : Int} {v : V_} {out : Int × V_} (T0 : (E.2.2.2.2.2 x0 ∧ ty_ x0 = 11 ∧ ln_ x0 = 0)) (h : fX11_clear x0 v = some out) : Met l yX11_clear [.code yX11_clear cX11_clear 2 (some FieldType.int)] (rm_ 2 47) (Pc_ E sz v [(2, x0)]) (Qc_ E sz 0 out.1 out.2) 0 0 (fun q => E.1 < q) := by
  refine met_G0 RX11 (by decide +kernel) rfl (Nat.le_of_ble_eq_true rfl) ?_
  intro p e s m args below meth c C hr hlk
  rw [fX11_clear] at h
  refine g_aload_n C (f := 0) dX11_clear_0 0 rfl ?_
  have F1 := fX11_6 hC T0.1 T0.2.1
  refine g_getR C (k := 6) (o := 139) okX11 (by decide) kf_RX11_37 dX11_clear_1 hC T0.1 T0.2.1 rfl rfl ?_
  obtain ⟨q2, eq2, h⟩ := bd_e h
  refine g_cV C [] (cX7_allBegun_ok l hC F1 eq2) okX7 F1.2.1 (rg_ hC F1.1) km_RX11_202 cv_X7_allBegun rfl (by decide) rfl rfl (Nat.le_of_ble_eq_true rfl) dX11_clear_4 ?_
  refine g_istore_n C (f := 1) (ls' := [(1, (0, q2.1)), (0, (2, x0))]) dX11_clear_7 (by decide) rfl ?_
  refine g_iload_n C (f := 1) dX11_clear_8 0 rfl ?_
  refine g_if_ne C 14 dX11_clear_9 rfl (fun c3 => ?_) (fun c3 => ?_)
  · replace h := if_f h c3
    refine g_aload_n C (f := 0) dX11_clear_14 1 rfl ?_
    have F4 := fX11_7 hC T0.1 T0.2.1
    refine g_getR C (k := 7) (o := 141) okX11 (by decide) kf_RX11_44 dX11_clear_15 hC T0.1 T0.2.1 rfl rfl ?_
    refine g_aload_n C (f := 0) dX11_clear_18 1 rfl ?_
    have F5 := fX11_6 hC T0.1 T0.2.1
    refine g_getR C (k := 6) (o := 139) okX11 (by decide) kf_RX11_37 dX11_clear_19 hC T0.1 T0.2.1 rfl rfl ?_
    obtain ⟨q6, eq6, h⟩ := bd_e h
    refine g_cV C [(2, x0 + 139)] (cX0_note_ok l hC F4 F5 eq6) okX0 F4.2.1 (rg_ hC F4.1) km_RX11_164 cv_X0_note rfl (by decide) rfl rfl (Nat.le_of_ble_eq_true rfl) dX11_clear_22 ?_
    refine g_aload_n C (f := 0) dX11_clear_25 1 rfl ?_
    have F7 := fX11_6 hC T0.1 T0.2.1
    refine g_getR C (k := 6) (o := 139) okX11 (by decide) kf_RX11_37 dX11_clear_26 hC T0.1 T0.2.1 rfl rfl ?_
    obtain ⟨q8, eq8, h⟩ := bd_e h
    refine g_cV C [] (cX7_clearCounts_ok l hC F7 eq8) okX7 F7.2.1 (rg_ hC F7.1) km_RX11_205 cv_X7_clearCounts rfl (by decide) rfl rfl (Nat.le_of_ble_eq_true rfl) dX11_clear_29 ?_
    refine g_aload_n C (f := 0) dX11_clear_32 1 rfl ?_
    obtain ⟨q9, eq9, h⟩ := bd_e h
    refine g_cV C [] (cX11_forgetAll_ok l hC hG T0 eq9) okX11 T0.2.1 (rg_ hC T0.1) km_RX11_93 cv_X11_forgetAll rfl (by decide) rfl rfl (Nat.le_of_ble_eq_true rfl) dX11_clear_33 ?_
    refine g_iload_n C (f := 1) dX11_clear_36 0 rfl ?_
    cases h
    exact g_iret C dX11_clear_37 hr hlk
  · replace h := if_t h c3
    refine g_iconst C (n := (-1)) dX11_clear_12 (by decide) ?_
    cases h
    exact g_iret C dX11_clear_13 hr hlk
theorem dX11_itemOf_0 : decode cX11_itemOf 0 = .ok (.aload_n 0, 1) := by decide +kernel
theorem dX11_itemOf_1 : decode cX11_itemOf 1 = .ok (.ifnull 15, 3) := by decide +kernel
theorem dX11_itemOf_4 : decode cX11_itemOf 4 = .ok (.iload_n 1, 1) := by decide +kernel
theorem dX11_itemOf_5 : decode cX11_itemOf 5 = .ok (.ifCond .lt 11, 3) := by decide +kernel
theorem dX11_itemOf_8 : decode cX11_itemOf 8 = .ok (.iload_n 1, 1) := by decide +kernel
theorem dX11_itemOf_9 : decode cX11_itemOf 9 = .ok (.aload_n 0, 1) := by decide +kernel
theorem dX11_itemOf_10 : decode cX11_itemOf 10 = .ok (.getfield 234, 3) := by decide +kernel
theorem dX11_itemOf_13 : decode cX11_itemOf 13 = .ok (.if_icmp .lt 7, 3) := by decide +kernel
theorem dX11_itemOf_16 : decode cX11_itemOf 16 = .ok (.aconst_null, 1) := by decide +kernel
theorem dX11_itemOf_17 : decode cX11_itemOf 17 = .ok (.goto 9, 3) := by decide +kernel
theorem dX11_itemOf_20 : decode cX11_itemOf 20 = .ok (.aload_n 0, 1) := by decide +kernel
theorem dX11_itemOf_21 : decode cX11_itemOf 21 = .ok (.getfield 303, 3) := by decide +kernel
theorem dX11_itemOf_24 : decode cX11_itemOf 24 = .ok (.iload_n 1, 1) := by decide +kernel
theorem dX11_itemOf_25 : decode cX11_itemOf 25 = .ok (.aaload, 1) := by decide +kernel
theorem dX11_itemOf_26 : decode cX11_itemOf 26 = .ok (.areturn, 1) := by decide +kernel
def fX11_itemOf (x0 x1 : Int) (v : V_) : Option (Int × V_) :=
  if x0 = 0 then (
    some (0, v))
  else (
    if x1 < 0 then (
      some (0, v))
    else (
      if x1 < (v x0 3) then (
        ck_ (0 ≤ x1 ∧ x1 < 34) (
        some ((x0 + 2) + (5 + 2 * x1), v)))
      else (
        some (0, v))))
theorem cX11_itemOf_ok (l : Launch) {E : En_} {sz : Int} (hC : Cl_ E.2.2.2.2.2 sz) {x0 x1 : Int} {v : V_} {out : Int × V_} (T0 : (x0 = 0 ∨ (E.2.2.2.2.2 x0 ∧ ty_ x0 = 10 ∧ ln_ x0 = 0))) (h : fX11_itemOf x0 x1 v = some out) : Met l yX11_itemOf [.code yX11_itemOf cX11_itemOf 2 (some (FieldType.object "TraceDesk$Item"))] (rm_ 0 0) (Pc_ E sz v [(2, x0), (0, x1)]) (Qc_ E sz 2 out.1 out.2) 0 0 (fun q => E.1 < q) := by
  refine met_G0 RX11 (by decide +kernel) rfl (Nat.le_of_ble_eq_true rfl) ?_
  intro p e s m args below meth c C hr hlk
  rw [fX11_itemOf] at h
  refine g_aload_n C (f := 0) dX11_itemOf_0 0 rfl ?_
  refine g_ifnull C 16 dX11_itemOf_1 rfl (fun c1 => ?_) (fun c1 => ?_)
  · replace h := if_t h c1
    refine g_null C dX11_itemOf_16 ?_
    refine g_goto C 26 dX11_itemOf_17 rfl ?_
    cases h
    exact g_aret C dX11_itemOf_26 hr (Or.inl ⟨_, rfl⟩) hlk
  · replace h := if_f h c1
    have F2 := Or.resolve_left T0 c1
    refine g_iload_n C (f := 1) dX11_itemOf_4 1 rfl ?_
    refine g_if_lt C 16 dX11_itemOf_5 rfl (fun c3 => ?_) (fun c3 => ?_)
    · replace h := if_t h c3
      refine g_null C dX11_itemOf_16 ?_
      refine g_goto C 26 dX11_itemOf_17 rfl ?_
      cases h
      exact g_aret C dX11_itemOf_26 hr (Or.inl ⟨_, rfl⟩) hlk
    · replace h := if_f h c3
      refine g_iload_n C (f := 1) dX11_itemOf_8 1 rfl ?_
      refine g_aload_n C (f := 0) dX11_itemOf_9 0 rfl ?_
      refine g_getf C (k := 3) (kd := 0) okX10 (by decide) kf_RX11_234 dX11_itemOf_10 (rg_ hC F2.1) F2.2.1 rfl ?_
      refine g_icmp_lt C 20 dX11_itemOf_13 rfl (fun c4 => ?_) (fun c4 => ?_)
      · replace h := if_t h c4
        refine g_aload_n C (f := 0) dX11_itemOf_20 0 rfl ?_
        have F5 := fX10_2 hC F2.1 F2.2.1
        refine g_getR C (k := 2) (o := 2) okX10 (by decide) kf_RX11_303 dX11_itemOf_21 hC F2.1 F2.2.1 rfl rfl ?_
        refine g_iload_n C (f := 1) dX11_itemOf_24 1 rfl ?_
        obtain ⟨c6, h⟩ := ck_e h
        have F7 := fE_items (i := x1) hC F5.1 F5.2.1 F5.2.2 c6
        refine g_aald C 26 34 5 2 dX11_itemOf_25 hC F5.1 F5.2.1 F5.2.2 c6 (by decide) oA_items ?_
        cases h
        exact g_aret C dX11_itemOf_26 hr (Or.inl ⟨_, rfl⟩) hlk
      · replace h := if_f h c4
        refine g_null C dX11_itemOf_16 ?_
        refine g_goto C 26 dX11_itemOf_17 rfl ?_
        cases h
        exact g_aret C dX11_itemOf_26 hr (Or.inl ⟨_, rfl⟩) hlk
theorem rX11_itemOf_ok {E : En_} {sz : Int} (hC : Cl_ E.2.2.2.2.2 sz) {x0 x1 : Int} {v : V_} {out : Int × V_} (T0 : (x0 = 0 ∨ (E.2.2.2.2.2 x0 ∧ ty_ x0 = 10 ∧ ln_ x0 = 0))) (h : fX11_itemOf x0 x1 v = some out) : (out.1 = 0 ∨ (E.2.2.2.2.2 out.1 ∧ ty_ out.1 = 1 ∧ ln_ out.1 = 0)) := by
  rw [fX11_itemOf] at h
  split at h
  · cases h; exact Or.inl rfl
  · rename_i c1
    have T := Or.resolve_left T0 c1
    split at h
    · cases h; exact Or.inl rfl
    · split at h
      · obtain ⟨g, h⟩ := ck_e h
        cases h
        exact Or.inr (fE_items hC (fX10_2 hC T.1 T.2.1).1 (fX10_2 hC T.1 T.2.1).2.1 (fX10_2 hC T.1 T.2.1).2.2 g)
      · cases h; exact Or.inl rfl
