theorem dX8_init_0 : decode cX8_init 0 = .ok (.aload_n 0, 1) := by decide +kernel
theorem dX8_init_1 : decode cX8_init 1 = .ok (.invokespecial 3, 3) := by decide +kernel
theorem dX8_init_4 : decode cX8_init 4 = .ok (.return_, 1) := by decide +kernel
noncomputable def fX8_init (x0 : Int) (v : V_) : Option (Int × V_) :=
  some (0, v)
set_option maxHeartbeats 20000000 in
theorem cX8_init_ok (l : Launch) {E : En_} (hE : ∀ a, ¬ E.2.2.2.2.2 a) {x0 : Int} {v : V_} {out : Int × V_} (T0 : 0 < x0 ∧ ty_ x0 = 8 ∧ ln_ x0 = 0) (h : fX8_init x0 v = some out) : Met l yX8_init [.code yX8_init cX8_init 1 none] (rmc_ 1 20 0) (PcA_ E (x0 + 1) v [(2, x0)]) (Qc_ E (x0 + 1 + (0 : Nat)) 9 out.1 out.2) 0 (2000 * 0) (fun q => E.1 < q) := by
  refine met_GK RX8 (by decide +kernel) rfl (Nat.le_of_ble_eq_true rfl) ?_
  intro p e s m args below meth c C hA hr hlk hin
  rw [fX8_init] at h
  refine g_aload_n C (f := 0) dX8_init_0 0 rfl ?_
  refine g_objI C kObj_RX8 kObjM kObjC T0.1 ⟨Nat.le_of_ble_eq_true rfl, Nat.le_of_ble_eq_true rfl⟩ dX8_init_1 ?_
  refine g_sz (sz' := x0 + 1 + (0 : Nat)) (by omega) ?_
  cases h
  exact g_vret C dX8_init_4 hr hlk
theorem dX1_init_0 : decode cX1_init 0 = .ok (.aload_n 0, 1) := by decide +kernel
theorem dX1_init_1 : decode cX1_init 1 = .ok (.invokespecial 3, 3) := by decide +kernel
theorem dX1_init_4 : decode cX1_init 4 = .ok (.aload_n 0, 1) := by decide +kernel
theorem dX1_init_5 : decode cX1_init 5 = .ok (.new 9, 3) := by decide +kernel
theorem dX1_init_8 : decode cX1_init 8 = .ok (.dup, 1) := by decide +kernel
theorem dX1_init_9 : decode cX1_init 9 = .ok (.invokespecial 11, 3) := by decide +kernel
theorem dX1_init_12 : decode cX1_init 12 = .ok (.putfield 12, 3) := by decide +kernel
theorem dX1_init_15 : decode cX1_init 15 = .ok (.return_, 1) := by decide +kernel
noncomputable def fX1_init (x0 : Int) (v : V_) : Option (Int × V_) :=
  ck_ (ty_ (x0 + 1) = 8 ∧ ln_ (x0 + 1) = 0) (
  bd_ (fX8_init (x0 + 1) (zr_ v (x0 + 1))) fun q3 =>
  lt_ (up_ q3.2 x0 0 (x0 + 1)) fun v4 =>
  some (0, v4))
set_option maxHeartbeats 20000000 in
theorem cX1_init_ok (l : Launch) {E : En_} (hE : ∀ a, ¬ E.2.2.2.2.2 a) {x0 : Int} {v : V_} {out : Int × V_} (T0 : 0 < x0 ∧ ty_ x0 = 1 ∧ ln_ x0 = 0) (h : fX1_init x0 v = some out) : Met l yX1_init [.code yX1_init cX1_init 1 none] (rmc_ 2 40 1) (PcA_ E (x0 + 1) v [(2, x0)]) (Qc_ E (x0 + 1 + (1 : Nat)) 9 out.1 out.2) 1 (2000 * 1) (fun q => E.1 < q) := by
  refine met_GK RX1 (by decide +kernel) rfl (Nat.le_of_ble_eq_true rfl) ?_
  intro p e s m args below meth c C hA hr hlk hin
  rw [fX1_init] at h
  refine g_aload_n C (f := 0) dX1_init_0 0 rfl ?_
  refine g_objI C kObj_RX1 kObjM kObjC T0.1 ⟨Nat.le_of_ble_eq_true rfl, Nat.le_of_ble_eq_true rfl⟩ dX1_init_1 ?_
  refine g_aload_n C (f := 0) dX1_init_4 0 rfl ?_
  obtain ⟨c1, h⟩ := ck_e h
  refine g_new C okX8 kcl_RX1_9 kins_X8 kin_X8_init hE c1.1 gtX8 (by omega) ⟨by show _ ≤ (1 : Nat); omega, by show _ ≤ 2000 * 1; omega⟩ (by decide) dX1_init_5 ?_
  have F2 : 0 < x0 + 1 ∧ ty_ (x0 + 1) = 8 ∧ ln_ (x0 + 1) = 0 := ⟨by omega, c1⟩
  refine g_sz (sz' := x0 + 2) (by omega) ?_
  refine g_dup C (Nat.ne_of_beq_eq_false rfl) dX1_init_8 ?_
  obtain ⟨q3, eq3, h⟩ := bd_e h
  refine g_sz (sz' := (x0 + 1) + 1) (by omega) ?_
  refine g_callIN C (K := 0) hA (cX8_init_ok l hE F2 eq3) ⟨F2.1, by omega⟩ km_RX1_11 kim_X8_init kin_X8_init kco_X8_init ⟨by decide +kernel, by decide +kernel, by decide +kernel⟩ rfl (by decide) rfl rfl (by omega) ⟨by show _ ≤ (1 : Nat); omega, by show _ ≤ 2000 * 1; omega⟩ (Nat.le_of_ble_eq_true rfl) dX1_init_9 ?_
  refine g_sz (sz' := x0 + 2) (by omega) ?_
  obtain ⟨v4, ev4, h⟩ := lt_e h
  refine g_putF C hin (k := 0) (kd := 2) okX1 (by decide) kf_RX1_12 dX1_init_12 ⟨T0.1, by omega⟩ T0.2.1 rfl rfl nvR hE ?_
  refine g_setv C ev4 ?_
  refine g_sz (sz' := x0 + 1 + (1 : Nat)) (by omega) ?_
  cases h
  exact g_vret C dX1_init_15 hr hlk
theorem dX2_init_0 : decode cX2_init 0 = .ok (.aload_n 0, 1) := by decide +kernel
theorem dX2_init_1 : decode cX2_init 1 = .ok (.invokespecial 3, 3) := by decide +kernel
theorem dX2_init_4 : decode cX2_init 4 = .ok (.aload_n 0, 1) := by decide +kernel
theorem dX2_init_5 : decode cX2_init 5 = .ok (.bipush 34, 2) := by decide +kernel
theorem dX2_init_7 : decode cX2_init 7 = .ok (.newarray .int, 2) := by decide +kernel
theorem dX2_init_9 : decode cX2_init 9 = .ok (.putfield 9, 3) := by decide +kernel
theorem dX2_init_12 : decode cX2_init 12 = .ok (.aload_n 0, 1) := by decide +kernel
theorem dX2_init_13 : decode cX2_init 13 = .ok (.bipush 34, 2) := by decide +kernel
theorem dX2_init_15 : decode cX2_init 15 = .ok (.newarray .int, 2) := by decide +kernel
theorem dX2_init_17 : decode cX2_init 17 = .ok (.putfield 15, 3) := by decide +kernel
theorem dX2_init_20 : decode cX2_init 20 = .ok (.aload_n 0, 1) := by decide +kernel
theorem dX2_init_21 : decode cX2_init 21 = .ok (.bipush 34, 2) := by decide +kernel
theorem dX2_init_23 : decode cX2_init 23 = .ok (.newarray .int, 2) := by decide +kernel
theorem dX2_init_25 : decode cX2_init 25 = .ok (.putfield 18, 3) := by decide +kernel
theorem dX2_init_28 : decode cX2_init 28 = .ok (.aload_n 0, 1) := by decide +kernel
theorem dX2_init_29 : decode cX2_init 29 = .ok (.bipush 34, 2) := by decide +kernel
theorem dX2_init_31 : decode cX2_init 31 = .ok (.newarray .int, 2) := by decide +kernel
theorem dX2_init_33 : decode cX2_init 33 = .ok (.putfield 21, 3) := by decide +kernel
theorem dX2_init_36 : decode cX2_init 36 = .ok (.aload_n 0, 1) := by decide +kernel
theorem dX2_init_37 : decode cX2_init 37 = .ok (.iconst 4, 1) := by decide +kernel
theorem dX2_init_38 : decode cX2_init 38 = .ok (.newarray .int, 2) := by decide +kernel
theorem dX2_init_40 : decode cX2_init 40 = .ok (.putfield 24, 3) := by decide +kernel
theorem dX2_init_43 : decode cX2_init 43 = .ok (.return_, 1) := by decide +kernel
noncomputable def fX2_init (x0 : Int) (v : V_) : Option (Int × V_) :=
  ck_ (ty_ (x0 + 1) = 20 ∧ ln_ (x0 + 1) = 34) (
  lt_ (up_ (zr_ v (x0 + 1)) x0 0 (x0 + 1)) fun v3 =>
  ck_ (ty_ (x0 + 2) = 20 ∧ ln_ (x0 + 2) = 34) (
  lt_ (up_ (zr_ v3 (x0 + 2)) x0 1 (x0 + 2)) fun v6 =>
  ck_ (ty_ (x0 + 3) = 20 ∧ ln_ (x0 + 3) = 34) (
  lt_ (up_ (zr_ v6 (x0 + 3)) x0 2 (x0 + 3)) fun v9 =>
  ck_ (ty_ (x0 + 4) = 20 ∧ ln_ (x0 + 4) = 34) (
  lt_ (up_ (zr_ v9 (x0 + 4)) x0 3 (x0 + 4)) fun v12 =>
  ck_ (ty_ (x0 + 5) = 20 ∧ ln_ (x0 + 5) = 4) (
  lt_ (up_ (zr_ v12 (x0 + 5)) x0 4 (x0 + 5)) fun v15 =>
  some (0, v15))))))
set_option maxHeartbeats 20000000 in
theorem cX2_init_ok (l : Launch) {E : En_} (hE : ∀ a, ¬ E.2.2.2.2.2 a) {x0 : Int} {v : V_} {out : Int × V_} (T0 : 0 < x0 ∧ ty_ x0 = 2 ∧ ln_ x0 = 0) (h : fX2_init x0 v = some out) : Met l yX2_init [.code yX2_init cX2_init 1 none] (rmc_ 1 20 5) (PcA_ E (x0 + 1) v [(2, x0)]) (Qc_ E (x0 + 1 + (5 : Nat)) 9 out.1 out.2) 5 (2000 * 5) (fun q => E.1 < q) := by
  refine met_GK RX2 (by decide +kernel) rfl (Nat.le_of_ble_eq_true rfl) ?_
  intro p e s m args below meth c C hA hr hlk hin
  rw [fX2_init] at h
  refine g_aload_n C (f := 0) dX2_init_0 0 rfl ?_
  refine g_objI C kObj_RX2 kObjM kObjC T0.1 ⟨Nat.le_of_ble_eq_true rfl, Nat.le_of_ble_eq_true rfl⟩ dX2_init_1 ?_
  refine g_aload_n C (f := 0) dX2_init_4 0 rfl ?_
  refine g_bipush C (n := 34) dX2_init_5 (by decide) ?_
  obtain ⟨c1, h⟩ := ck_e h
  refine g_newa C (atype := .int) 20 34 kac_int hE (Or.inl ⟨rfl, rfl⟩) c1.1 c1.2 rfl (by omega) ⟨by show _ ≤ (5 : Nat); omega, by show _ ≤ 2000 * 5; omega⟩ (by decide) dX2_init_7 ?_
  have F2 : 0 < x0 + 1 ∧ ty_ (x0 + 1) = 20 ∧ ln_ (x0 + 1) = 34 := ⟨by omega, c1⟩
  refine g_sz (sz' := x0 + 2) (by omega) ?_
  obtain ⟨v3, ev3, h⟩ := lt_e h
  refine g_putF C hin (k := 0) (kd := 2) okX2 (by decide) kf_RX2_9 dX2_init_9 ⟨T0.1, by omega⟩ T0.2.1 rfl rfl nvA hE ?_
  refine g_setv C ev3 ?_
  refine g_aload_n C (f := 0) dX2_init_12 0 rfl ?_
  refine g_bipush C (n := 34) dX2_init_13 (by decide) ?_
  obtain ⟨c4, h⟩ := ck_e h
  refine g_newa C (atype := .int) 20 34 kac_int hE (Or.inl ⟨rfl, rfl⟩) c4.1 c4.2 rfl (by omega) ⟨by show _ ≤ (5 : Nat); omega, by show _ ≤ 2000 * 5; omega⟩ (by decide) dX2_init_15 ?_
  have F5 : 0 < x0 + 2 ∧ ty_ (x0 + 2) = 20 ∧ ln_ (x0 + 2) = 34 := ⟨by omega, c4⟩
  refine g_sz (sz' := x0 + 3) (by omega) ?_
  obtain ⟨v6, ev6, h⟩ := lt_e h
  refine g_putF C hin (k := 1) (kd := 2) okX2 (by decide) kf_RX2_15 dX2_init_17 ⟨T0.1, by omega⟩ T0.2.1 rfl rfl nvA hE ?_
  refine g_setv C ev6 ?_
  refine g_aload_n C (f := 0) dX2_init_20 0 rfl ?_
  refine g_bipush C (n := 34) dX2_init_21 (by decide) ?_
  obtain ⟨c7, h⟩ := ck_e h
  refine g_newa C (atype := .int) 20 34 kac_int hE (Or.inl ⟨rfl, rfl⟩) c7.1 c7.2 rfl (by omega) ⟨by show _ ≤ (5 : Nat); omega, by show _ ≤ 2000 * 5; omega⟩ (by decide) dX2_init_23 ?_
  have F8 : 0 < x0 + 3 ∧ ty_ (x0 + 3) = 20 ∧ ln_ (x0 + 3) = 34 := ⟨by omega, c7⟩
  refine g_sz (sz' := x0 + 4) (by omega) ?_
  obtain ⟨v9, ev9, h⟩ := lt_e h
  refine g_putF C hin (k := 2) (kd := 2) okX2 (by decide) kf_RX2_18 dX2_init_25 ⟨T0.1, by omega⟩ T0.2.1 rfl rfl nvA hE ?_
  refine g_setv C ev9 ?_
  refine g_aload_n C (f := 0) dX2_init_28 0 rfl ?_
  refine g_bipush C (n := 34) dX2_init_29 (by decide) ?_
  obtain ⟨c10, h⟩ := ck_e h
  refine g_newa C (atype := .int) 20 34 kac_int hE (Or.inl ⟨rfl, rfl⟩) c10.1 c10.2 rfl (by omega) ⟨by show _ ≤ (5 : Nat); omega, by show _ ≤ 2000 * 5; omega⟩ (by decide) dX2_init_31 ?_
  have F11 : 0 < x0 + 4 ∧ ty_ (x0 + 4) = 20 ∧ ln_ (x0 + 4) = 34 := ⟨by omega, c10⟩
  refine g_sz (sz' := x0 + 5) (by omega) ?_
  obtain ⟨v12, ev12, h⟩ := lt_e h
  refine g_putF C hin (k := 3) (kd := 2) okX2 (by decide) kf_RX2_21 dX2_init_33 ⟨T0.1, by omega⟩ T0.2.1 rfl rfl nvA hE ?_
  refine g_setv C ev12 ?_
  refine g_aload_n C (f := 0) dX2_init_36 0 rfl ?_
  refine g_iconst C (n := 4) dX2_init_37 (by decide) ?_
  obtain ⟨c13, h⟩ := ck_e h
  refine g_newa C (atype := .int) 20 4 kac_int hE (Or.inl ⟨rfl, rfl⟩) c13.1 c13.2 rfl (by omega) ⟨by show _ ≤ (5 : Nat); omega, by show _ ≤ 2000 * 5; omega⟩ (by decide) dX2_init_38 ?_
  have F14 : 0 < x0 + 5 ∧ ty_ (x0 + 5) = 20 ∧ ln_ (x0 + 5) = 4 := ⟨by omega, c13⟩
  refine g_sz (sz' := x0 + 6) (by omega) ?_
  obtain ⟨v15, ev15, h⟩ := lt_e h
  refine g_putF C hin (k := 4) (kd := 2) okX2 (by decide) kf_RX2_24 dX2_init_40 ⟨T0.1, by omega⟩ T0.2.1 rfl rfl nvA hE ?_
  refine g_setv C ev15 ?_
  refine g_sz (sz' := x0 + 1 + (5 : Nat)) (by omega) ?_
  cases h
  exact g_vret C dX2_init_43 hr hlk
theorem dX6_init_0 : decode cX6_init 0 = .ok (.aload_n 0, 1) := by decide +kernel
theorem dX6_init_1 : decode cX6_init 1 = .ok (.invokespecial 3, 3) := by decide +kernel
theorem dX6_init_4 : decode cX6_init 4 = .ok (.aload_n 0, 1) := by decide +kernel
theorem dX6_init_5 : decode cX6_init 5 = .ok (.bipush 12, 2) := by decide +kernel
theorem dX6_init_7 : decode cX6_init 7 = .ok (.newarray .int, 2) := by decide +kernel
theorem dX6_init_9 : decode cX6_init 9 = .ok (.putfield 9, 3) := by decide +kernel
theorem dX6_init_12 : decode cX6_init 12 = .ok (.aload_n 0, 1) := by decide +kernel
theorem dX6_init_13 : decode cX6_init 13 = .ok (.bipush 8, 2) := by decide +kernel
theorem dX6_init_15 : decode cX6_init 15 = .ok (.newarray .int, 2) := by decide +kernel
theorem dX6_init_17 : decode cX6_init 17 = .ok (.putfield 15, 3) := by decide +kernel
theorem dX6_init_20 : decode cX6_init 20 = .ok (.aload_n 0, 1) := by decide +kernel
theorem dX6_init_21 : decode cX6_init 21 = .ok (.bipush 8, 2) := by decide +kernel
theorem dX6_init_23 : decode cX6_init 23 = .ok (.newarray .int, 2) := by decide +kernel
theorem dX6_init_25 : decode cX6_init 25 = .ok (.putfield 18, 3) := by decide +kernel
theorem dX6_init_28 : decode cX6_init 28 = .ok (.aload_n 0, 1) := by decide +kernel
theorem dX6_init_29 : decode cX6_init 29 = .ok (.bipush 16, 2) := by decide +kernel
theorem dX6_init_31 : decode cX6_init 31 = .ok (.newarray .int, 2) := by decide +kernel
theorem dX6_init_33 : decode cX6_init 33 = .ok (.putfield 21, 3) := by decide +kernel
theorem dX6_init_36 : decode cX6_init 36 = .ok (.aload_n 0, 1) := by decide +kernel
theorem dX6_init_37 : decode cX6_init 37 = .ok (.bipush 34, 2) := by decide +kernel
theorem dX6_init_39 : decode cX6_init 39 = .ok (.newarray .int, 2) := by decide +kernel
theorem dX6_init_41 : decode cX6_init 41 = .ok (.putfield 24, 3) := by decide +kernel
theorem dX6_init_44 : decode cX6_init 44 = .ok (.aload_n 0, 1) := by decide +kernel
theorem dX6_init_45 : decode cX6_init 45 = .ok (.bipush 34, 2) := by decide +kernel
theorem dX6_init_47 : decode cX6_init 47 = .ok (.newarray .int, 2) := by decide +kernel
theorem dX6_init_49 : decode cX6_init 49 = .ok (.putfield 27, 3) := by decide +kernel
theorem dX6_init_52 : decode cX6_init 52 = .ok (.return_, 1) := by decide +kernel
noncomputable def fX6_init (x0 : Int) (v : V_) : Option (Int × V_) :=
  ck_ (ty_ (x0 + 1) = 20 ∧ ln_ (x0 + 1) = 12) (
  lt_ (up_ (zr_ v (x0 + 1)) x0 0 (x0 + 1)) fun v3 =>
  ck_ (ty_ (x0 + 2) = 20 ∧ ln_ (x0 + 2) = 8) (
  lt_ (up_ (zr_ v3 (x0 + 2)) x0 1 (x0 + 2)) fun v6 =>
  ck_ (ty_ (x0 + 3) = 20 ∧ ln_ (x0 + 3) = 8) (
  lt_ (up_ (zr_ v6 (x0 + 3)) x0 2 (x0 + 3)) fun v9 =>
  ck_ (ty_ (x0 + 4) = 20 ∧ ln_ (x0 + 4) = 16) (
  lt_ (up_ (zr_ v9 (x0 + 4)) x0 3 (x0 + 4)) fun v12 =>
  ck_ (ty_ (x0 + 5) = 20 ∧ ln_ (x0 + 5) = 34) (
  lt_ (up_ (zr_ v12 (x0 + 5)) x0 12 (x0 + 5)) fun v15 =>
  ck_ (ty_ (x0 + 6) = 20 ∧ ln_ (x0 + 6) = 34) (
  lt_ (up_ (zr_ v15 (x0 + 6)) x0 13 (x0 + 6)) fun v18 =>
  some (0, v18)))))))
set_option maxHeartbeats 20000000 in
theorem cX6_init_ok (l : Launch) {E : En_} (hE : ∀ a, ¬ E.2.2.2.2.2 a) {x0 : Int} {v : V_} {out : Int × V_} (T0 : 0 < x0 ∧ ty_ x0 = 6 ∧ ln_ x0 = 0) (h : fX6_init x0 v = some out) : Met l yX6_init [.code yX6_init cX6_init 1 none] (rmc_ 1 20 6) (PcA_ E (x0 + 1) v [(2, x0)]) (Qc_ E (x0 + 1 + (6 : Nat)) 9 out.1 out.2) 6 (2000 * 6) (fun q => E.1 < q) := by
  refine met_GK RX6 (by decide +kernel) rfl (Nat.le_of_ble_eq_true rfl) ?_
  intro p e s m args below meth c C hA hr hlk hin
  rw [fX6_init] at h
  refine g_aload_n C (f := 0) dX6_init_0 0 rfl ?_
  refine g_objI C kObj_RX6 kObjM kObjC T0.1 ⟨Nat.le_of_ble_eq_true rfl, Nat.le_of_ble_eq_true rfl⟩ dX6_init_1 ?_
  refine g_aload_n C (f := 0) dX6_init_4 0 rfl ?_
  refine g_bipush C (n := 12) dX6_init_5 (by decide) ?_
  obtain ⟨c1, h⟩ := ck_e h
  refine g_newa C (atype := .int) 20 12 kac_int hE (Or.inl ⟨rfl, rfl⟩) c1.1 c1.2 rfl (by omega) ⟨by show _ ≤ (6 : Nat); omega, by show _ ≤ 2000 * 6; omega⟩ (by decide) dX6_init_7 ?_
  have F2 : 0 < x0 + 1 ∧ ty_ (x0 + 1) = 20 ∧ ln_ (x0 + 1) = 12 := ⟨by omega, c1⟩
  refine g_sz (sz' := x0 + 2) (by omega) ?_
  obtain ⟨v3, ev3, h⟩ := lt_e h
  refine g_putF C hin (k := 0) (kd := 2) okX6 (by decide) kf_RX6_9 dX6_init_9 ⟨T0.1, by omega⟩ T0.2.1 rfl rfl nvA hE ?_
  refine g_setv C ev3 ?_
  refine g_aload_n C (f := 0) dX6_init_12 0 rfl ?_
  refine g_bipush C (n := 8) dX6_init_13 (by decide) ?_
  obtain ⟨c4, h⟩ := ck_e h
  refine g_newa C (atype := .int) 20 8 kac_int hE (Or.inl ⟨rfl, rfl⟩) c4.1 c4.2 rfl (by omega) ⟨by show _ ≤ (6 : Nat); omega, by show _ ≤ 2000 * 6; omega⟩ (by decide) dX6_init_15 ?_
  have F5 : 0 < x0 + 2 ∧ ty_ (x0 + 2) = 20 ∧ ln_ (x0 + 2) = 8 := ⟨by omega, c4⟩
  refine g_sz (sz' := x0 + 3) (by omega) ?_
  obtain ⟨v6, ev6, h⟩ := lt_e h
  refine g_putF C hin (k := 1) (kd := 2) okX6 (by decide) kf_RX6_15 dX6_init_17 ⟨T0.1, by omega⟩ T0.2.1 rfl rfl nvA hE ?_
  refine g_setv C ev6 ?_
  refine g_aload_n C (f := 0) dX6_init_20 0 rfl ?_
  refine g_bipush C (n := 8) dX6_init_21 (by decide) ?_
  obtain ⟨c7, h⟩ := ck_e h
  refine g_newa C (atype := .int) 20 8 kac_int hE (Or.inl ⟨rfl, rfl⟩) c7.1 c7.2 rfl (by omega) ⟨by show _ ≤ (6 : Nat); omega, by show _ ≤ 2000 * 6; omega⟩ (by decide) dX6_init_23 ?_
  have F8 : 0 < x0 + 3 ∧ ty_ (x0 + 3) = 20 ∧ ln_ (x0 + 3) = 8 := ⟨by omega, c7⟩
  refine g_sz (sz' := x0 + 4) (by omega) ?_
  obtain ⟨v9, ev9, h⟩ := lt_e h
  refine g_putF C hin (k := 2) (kd := 2) okX6 (by decide) kf_RX6_18 dX6_init_25 ⟨T0.1, by omega⟩ T0.2.1 rfl rfl nvA hE ?_
  refine g_setv C ev9 ?_
  refine g_aload_n C (f := 0) dX6_init_28 0 rfl ?_
  refine g_bipush C (n := 16) dX6_init_29 (by decide) ?_
  obtain ⟨c10, h⟩ := ck_e h
  refine g_newa C (atype := .int) 20 16 kac_int hE (Or.inl ⟨rfl, rfl⟩) c10.1 c10.2 rfl (by omega) ⟨by show _ ≤ (6 : Nat); omega, by show _ ≤ 2000 * 6; omega⟩ (by decide) dX6_init_31 ?_
  have F11 : 0 < x0 + 4 ∧ ty_ (x0 + 4) = 20 ∧ ln_ (x0 + 4) = 16 := ⟨by omega, c10⟩
  refine g_sz (sz' := x0 + 5) (by omega) ?_
  obtain ⟨v12, ev12, h⟩ := lt_e h
  refine g_putF C hin (k := 3) (kd := 2) okX6 (by decide) kf_RX6_21 dX6_init_33 ⟨T0.1, by omega⟩ T0.2.1 rfl rfl nvA hE ?_
  refine g_setv C ev12 ?_
  refine g_aload_n C (f := 0) dX6_init_36 0 rfl ?_
  refine g_bipush C (n := 34) dX6_init_37 (by decide) ?_
  obtain ⟨c13, h⟩ := ck_e h
  refine g_newa C (atype := .int) 20 34 kac_int hE (Or.inl ⟨rfl, rfl⟩) c13.1 c13.2 rfl (by omega) ⟨by show _ ≤ (6 : Nat); omega, by show _ ≤ 2000 * 6; omega⟩ (by decide) dX6_init_39 ?_
  have F14 : 0 < x0 + 5 ∧ ty_ (x0 + 5) = 20 ∧ ln_ (x0 + 5) = 34 := ⟨by omega, c13⟩
  refine g_sz (sz' := x0 + 6) (by omega) ?_
  obtain ⟨v15, ev15, h⟩ := lt_e h
  refine g_putF C hin (k := 12) (kd := 2) okX6 (by decide) kf_RX6_24 dX6_init_41 ⟨T0.1, by omega⟩ T0.2.1 rfl rfl nvA hE ?_
  refine g_setv C ev15 ?_
  refine g_aload_n C (f := 0) dX6_init_44 0 rfl ?_
  refine g_bipush C (n := 34) dX6_init_45 (by decide) ?_
  obtain ⟨c16, h⟩ := ck_e h
  refine g_newa C (atype := .int) 20 34 kac_int hE (Or.inl ⟨rfl, rfl⟩) c16.1 c16.2 rfl (by omega) ⟨by show _ ≤ (6 : Nat); omega, by show _ ≤ 2000 * 6; omega⟩ (by decide) dX6_init_47 ?_
  have F17 : 0 < x0 + 6 ∧ ty_ (x0 + 6) = 20 ∧ ln_ (x0 + 6) = 34 := ⟨by omega, c16⟩
  refine g_sz (sz' := x0 + 7) (by omega) ?_
  obtain ⟨v18, ev18, h⟩ := lt_e h
  refine g_putF C hin (k := 13) (kd := 2) okX6 (by decide) kf_RX6_27 dX6_init_49 ⟨T0.1, by omega⟩ T0.2.1 rfl rfl nvA hE ?_
  refine g_setv C ev18 ?_
  refine g_sz (sz' := x0 + 1 + (6 : Nat)) (by omega) ?_
  cases h
  exact g_vret C dX6_init_52 hr hlk
theorem dX7_init_0 : decode cX7_init 0 = .ok (.aload_n 0, 1) := by decide +kernel
theorem dX7_init_1 : decode cX7_init 1 = .ok (.invokespecial 5, 3) := by decide +kernel
theorem dX7_init_4 : decode cX7_init 4 = .ok (.aload_n 0, 1) := by decide +kernel
theorem dX7_init_5 : decode cX7_init 5 = .ok (.bipush 47, 2) := by decide +kernel
theorem dX7_init_7 : decode cX7_init 7 = .ok (.newarray .int, 2) := by decide +kernel
theorem dX7_init_9 : decode cX7_init 9 = .ok (.putfield 11, 3) := by decide +kernel
theorem dX7_init_12 : decode cX7_init 12 = .ok (.return_, 1) := by decide +kernel
noncomputable def fX7_init (x0 : Int) (v : V_) : Option (Int × V_) :=
  ck_ (ty_ (x0 + 1) = 20 ∧ ln_ (x0 + 1) = 47) (
  lt_ (up_ (zr_ v (x0 + 1)) x0 0 (x0 + 1)) fun v3 =>
  some (0, v3))
set_option maxHeartbeats 20000000 in
theorem cX7_init_ok (l : Launch) {E : En_} (hE : ∀ a, ¬ E.2.2.2.2.2 a) {x0 : Int} {v : V_} {out : Int × V_} (T0 : 0 < x0 ∧ ty_ x0 = 7 ∧ ln_ x0 = 0) (h : fX7_init x0 v = some out) : Met l yX7_init [.code yX7_init cX7_init 1 none] (rmc_ 1 20 1) (PcA_ E (x0 + 1) v [(2, x0)]) (Qc_ E (x0 + 1 + (1 : Nat)) 9 out.1 out.2) 1 (2000 * 1) (fun q => E.1 < q) := by
  refine met_GK RX7 (by decide +kernel) rfl (Nat.le_of_ble_eq_true rfl) ?_
  intro p e s m args below meth c C hA hr hlk hin
  rw [fX7_init] at h
  refine g_aload_n C (f := 0) dX7_init_0 0 rfl ?_
  refine g_objI C kObj_RX7 kObjM kObjC T0.1 ⟨Nat.le_of_ble_eq_true rfl, Nat.le_of_ble_eq_true rfl⟩ dX7_init_1 ?_
  refine g_aload_n C (f := 0) dX7_init_4 0 rfl ?_
  refine g_bipush C (n := 47) dX7_init_5 (by decide) ?_
  obtain ⟨c1, h⟩ := ck_e h
  refine g_newa C (atype := .int) 20 47 kac_int hE (Or.inl ⟨rfl, rfl⟩) c1.1 c1.2 rfl (by omega) ⟨by show _ ≤ (1 : Nat); omega, by show _ ≤ 2000 * 1; omega⟩ (by decide) dX7_init_7 ?_
  have F2 : 0 < x0 + 1 ∧ ty_ (x0 + 1) = 20 ∧ ln_ (x0 + 1) = 47 := ⟨by omega, c1⟩
  refine g_sz (sz' := x0 + 2) (by omega) ?_
  obtain ⟨v3, ev3, h⟩ := lt_e h
  refine g_putF C hin (k := 0) (kd := 2) okX7 (by decide) kf_RX7_11 dX7_init_9 ⟨T0.1, by omega⟩ T0.2.1 rfl rfl nvA hE ?_
  refine g_setv C ev3 ?_
  refine g_sz (sz' := x0 + 1 + (1 : Nat)) (by omega) ?_
  cases h
  exact g_vret C dX7_init_12 hr hlk
theorem dX5_init_0 : decode cX5_init 0 = .ok (.aload_n 0, 1) := by decide +kernel
theorem dX5_init_1 : decode cX5_init 1 = .ok (.invokespecial 3, 3) := by decide +kernel
theorem dX5_init_4 : decode cX5_init 4 = .ok (.aload_n 0, 1) := by decide +kernel
theorem dX5_init_5 : decode cX5_init 5 = .ok (.bipush 8, 2) := by decide +kernel
theorem dX5_init_7 : decode cX5_init 7 = .ok (.newarray .int, 2) := by decide +kernel
theorem dX5_init_9 : decode cX5_init 9 = .ok (.putfield 9, 3) := by decide +kernel
theorem dX5_init_12 : decode cX5_init 12 = .ok (.aload_n 0, 1) := by decide +kernel
theorem dX5_init_13 : decode cX5_init 13 = .ok (.bipush 48, 2) := by decide +kernel
theorem dX5_init_15 : decode cX5_init 15 = .ok (.anewarray 15, 3) := by decide +kernel
theorem dX5_init_18 : decode cX5_init 18 = .ok (.putfield 17, 3) := by decide +kernel
theorem dX5_init_21 : decode cX5_init 21 = .ok (.aload_n 0, 1) := by decide +kernel
theorem dX5_init_22 : decode cX5_init 22 = .ok (.bipush 8, 2) := by decide +kernel
theorem dX5_init_24 : decode cX5_init 24 = .ok (.anewarray 15, 3) := by decide +kernel
theorem dX5_init_27 : decode cX5_init 27 = .ok (.putfield 21, 3) := by decide +kernel
theorem dX5_init_30 : decode cX5_init 30 = .ok (.aload_n 0, 1) := by decide +kernel
theorem dX5_init_31 : decode cX5_init 31 = .ok (.bipush 16, 2) := by decide +kernel
theorem dX5_init_33 : decode cX5_init 33 = .ok (.newarray .int, 2) := by decide +kernel
theorem dX5_init_35 : decode cX5_init 35 = .ok (.putfield 24, 3) := by decide +kernel
theorem dX5_init_38 : decode cX5_init 38 = .ok (.aload_n 0, 1) := by decide +kernel
theorem dX5_init_39 : decode cX5_init 39 = .ok (.bipush 8, 2) := by decide +kernel
theorem dX5_init_41 : decode cX5_init 41 = .ok (.newarray .int, 2) := by decide +kernel
theorem dX5_init_43 : decode cX5_init 43 = .ok (.putfield 27, 3) := by decide +kernel
theorem dX5_init_46 : decode cX5_init 46 = .ok (.aload_n 0, 1) := by decide +kernel
theorem dX5_init_47 : decode cX5_init 47 = .ok (.iconst 4, 1) := by decide +kernel
theorem dX5_init_48 : decode cX5_init 48 = .ok (.newarray .int, 2) := by decide +kernel
theorem dX5_init_50 : decode cX5_init 50 = .ok (.putfield 30, 3) := by decide +kernel
theorem dX5_init_53 : decode cX5_init 53 = .ok (.aload_n 0, 1) := by decide +kernel
theorem dX5_init_54 : decode cX5_init 54 = .ok (.iconst 4, 1) := by decide +kernel
theorem dX5_init_55 : decode cX5_init 55 = .ok (.newarray .int, 2) := by decide +kernel
theorem dX5_init_57 : decode cX5_init 57 = .ok (.putfield 33, 3) := by decide +kernel
theorem dX5_init_60 : decode cX5_init 60 = .ok (.iconst 0, 1) := by decide +kernel
theorem dX5_init_61 : decode cX5_init 61 = .ok (.istore_n 1, 1) := by decide +kernel
theorem dX5_init_62 : decode cX5_init 62 = .ok (.iload_n 1, 1) := by decide +kernel
theorem dX5_init_63 : decode cX5_init 63 = .ok (.aload_n 0, 1) := by decide +kernel
theorem dX5_init_64 : decode cX5_init 64 = .ok (.getfield 17, 3) := by decide +kernel
theorem dX5_init_67 : decode cX5_init 67 = .ok (.arraylength, 1) := by decide +kernel
theorem dX5_init_68 : decode cX5_init 68 = .ok (.if_icmp .ge 22, 3) := by decide +kernel
theorem dX5_init_71 : decode cX5_init 71 = .ok (.aload_n 0, 1) := by decide +kernel
theorem dX5_init_72 : decode cX5_init 72 = .ok (.getfield 17, 3) := by decide +kernel
theorem dX5_init_75 : decode cX5_init 75 = .ok (.iload_n 1, 1) := by decide +kernel
theorem dX5_init_76 : decode cX5_init 76 = .ok (.new 15, 3) := by decide +kernel
theorem dX5_init_79 : decode cX5_init 79 = .ok (.dup, 1) := by decide +kernel
theorem dX5_init_80 : decode cX5_init 80 = .ok (.invokespecial 36, 3) := by decide +kernel
theorem dX5_init_83 : decode cX5_init 83 = .ok (.aastore, 1) := by decide +kernel
theorem dX5_init_84 : decode cX5_init 84 = .ok (.iinc 1 1, 3) := by decide +kernel
theorem dX5_init_87 : decode cX5_init 87 = .ok (.goto (-25), 3) := by decide +kernel
theorem dX5_init_90 : decode cX5_init 90 = .ok (.iconst 0, 1) := by decide +kernel
theorem dX5_init_91 : decode cX5_init 91 = .ok (.istore_n 1, 1) := by decide +kernel
theorem dX5_init_92 : decode cX5_init 92 = .ok (.iload_n 1, 1) := by decide +kernel
theorem dX5_init_93 : decode cX5_init 93 = .ok (.aload_n 0, 1) := by decide +kernel
theorem dX5_init_94 : decode cX5_init 94 = .ok (.getfield 21, 3) := by decide +kernel
theorem dX5_init_97 : decode cX5_init 97 = .ok (.arraylength, 1) := by decide +kernel
theorem dX5_init_98 : decode cX5_init 98 = .ok (.if_icmp .ge 22, 3) := by decide +kernel
theorem dX5_init_101 : decode cX5_init 101 = .ok (.aload_n 0, 1) := by decide +kernel
theorem dX5_init_102 : decode cX5_init 102 = .ok (.getfield 21, 3) := by decide +kernel
theorem dX5_init_105 : decode cX5_init 105 = .ok (.iload_n 1, 1) := by decide +kernel
theorem dX5_init_106 : decode cX5_init 106 = .ok (.new 15, 3) := by decide +kernel
theorem dX5_init_109 : decode cX5_init 109 = .ok (.dup, 1) := by decide +kernel
theorem dX5_init_110 : decode cX5_init 110 = .ok (.invokespecial 36, 3) := by decide +kernel
theorem dX5_init_113 : decode cX5_init 113 = .ok (.aastore, 1) := by decide +kernel
theorem dX5_init_114 : decode cX5_init 114 = .ok (.iinc 1 1, 3) := by decide +kernel
theorem dX5_init_117 : decode cX5_init 117 = .ok (.goto (-25), 3) := by decide +kernel
theorem dX5_init_120 : decode cX5_init 120 = .ok (.aload_n 0, 1) := by decide +kernel
theorem dX5_init_121 : decode cX5_init 121 = .ok (.invokevirtual 37, 3) := by decide +kernel
theorem dX5_init_124 : decode cX5_init 124 = .ok (.return_, 1) := by decide +kernel
noncomputable def fX5_init_92 : Nat → Int → Int → Int → V_ → Option (Int × V_)
  | 0, _, _, _, _ => none
  | n + 1, x0, x1, z, v =>
    ck_ (v x0 3 = x0 + 3 ∧ (ty_ (x0 + 3) = 25 ∧ ln_ (x0 + 3) = 8) ∧ x0 + 3 < z) (
    if 8 ≤ x1 then (
      ck_ (x0 + 1 ≤ z ∧ z ≤ x0 + 1 + 63) (
      ckp_ (Sc_ x0 (z) v) (
      bd_ (fX5_startAnew x0 v) fun q28 =>
      ck_ (z = x0 + 1 + 63) (
      some (0, q28.2)))))
    else (
    ck_ (x0 + 1 ≤ z ∧ z + 1 ≤ x0 + 1 + 63) (
      ck_ (v x0 3 = x0 + 3 ∧ (ty_ (x0 + 3) = 25 ∧ ln_ (x0 + 3) = 8) ∧ x0 + 3 < z) (
      ck_ (ty_ (z) = 8 ∧ ln_ (z) = 0) (
      bd_ (fX8_init z (zr_ v (z))) fun q38 =>
      ck_ (0 ≤ x1 ∧ x1 < 8) (
      lt_ (up_ q38.2 (x0 + 3) x1 z) fun v40 =>
      lt_ (wr_ (x1 + 1)) fun y41 =>
      fX5_init_92 n x0 y41 (z + 1) v40))))))
noncomputable def fX5_init_62 : Nat → Int → Int → Int → V_ → Option (Int × V_)
  | 0, _, _, _, _ => none
  | n + 1, x0, x1, z, v =>
    ck_ (v x0 2 = x0 + 2 ∧ (ty_ (x0 + 2) = 25 ∧ ln_ (x0 + 2) = 48) ∧ x0 + 2 < z) (
    if 48 ≤ x1 then (
      fX5_init_92 fu_ x0 0 z v)
    else (
    ck_ (x0 + 1 ≤ z ∧ z + 1 ≤ x0 + 1 + 63) (
      ck_ (v x0 2 = x0 + 2 ∧ (ty_ (x0 + 2) = 25 ∧ ln_ (x0 + 2) = 48) ∧ x0 + 2 < z) (
      ck_ (ty_ (z) = 8 ∧ ln_ (z) = 0) (
      bd_ (fX8_init z (zr_ v (z))) fun q47 =>
      ck_ (0 ≤ x1 ∧ x1 < 48) (
      lt_ (up_ q47.2 (x0 + 2) x1 z) fun v49 =>
      lt_ (wr_ (x1 + 1)) fun y50 =>
      fX5_init_62 n x0 y50 (z + 1) v49))))))
noncomputable def fX5_init (x0 : Int) (v : V_) : Option (Int × V_) :=
  ck_ (ty_ (x0 + 1) = 20 ∧ ln_ (x0 + 1) = 8) (
  lt_ (up_ (zr_ v (x0 + 1)) x0 1 (x0 + 1)) fun v3 =>
  ck_ (ty_ (x0 + 2) = 25 ∧ ln_ (x0 + 2) = 48) (
  lt_ (up_ (zr_ v3 (x0 + 2)) x0 2 (x0 + 2)) fun v6 =>
  ck_ (ty_ (x0 + 3) = 25 ∧ ln_ (x0 + 3) = 8) (
  lt_ (up_ (zr_ v6 (x0 + 3)) x0 3 (x0 + 3)) fun v9 =>
  ck_ (ty_ (x0 + 4) = 20 ∧ ln_ (x0 + 4) = 16) (
  lt_ (up_ (zr_ v9 (x0 + 4)) x0 4 (x0 + 4)) fun v12 =>
  ck_ (ty_ (x0 + 5) = 20 ∧ ln_ (x0 + 5) = 8) (
  lt_ (up_ (zr_ v12 (x0 + 5)) x0 5 (x0 + 5)) fun v15 =>
  ck_ (ty_ (x0 + 6) = 20 ∧ ln_ (x0 + 6) = 4) (
  lt_ (up_ (zr_ v15 (x0 + 6)) x0 6 (x0 + 6)) fun v18 =>
  ck_ (ty_ (x0 + 7) = 20 ∧ ln_ (x0 + 7) = 4) (
  lt_ (up_ (zr_ v18 (x0 + 7)) x0 7 (x0 + 7)) fun v21 =>
  fX5_init_62 fu_ x0 0 (x0 + 8) v21)))))))
section
variable {E : En_} {p : Program} {l : Launch} {e : Env} {s : State} {m : MethodId} {args : Array Value} {below : List Frame} {meth : Method} {c : Code} {aK aV : Nat}
theorem tX5_init_92 (C : MC_ E p s m c cX5_init 2 RX5) (hr : meth.sig.returnType = none) (hlk : meth.locks = false) (hin : meth.name = "<init>") (hA : KA_ s) (hE : ∀ a, ¬ E.2.2.2.2.2 a) {x0 : Int} (T0 : 0 < x0 ∧ ty_ x0 = 5 ∧ ln_ x0 = 0) {out : Int × V_} : ∀ (n : Nat) (x1 z : Int) (v : V_), x0 + 1 ≤ z → fX5_init_92 n x0 x1 z v = some out → G_ E p l e (rmc_ 2 43 63) s m args below meth c 2 (x0 + 1) (Q_ E below args s (x0 + 1) (x0 + 1 + (63 : Nat)) 9 out.1 out.2) 92 [(0, (2, x0)), (1, (0, x1))] [] v z := by
  intro n
  induction n with
  | zero =>
    intro x1 z v hz h
    cases h
  | succ n H =>
    intro x1 z v hz h
    rw [fX5_init_92] at h
    refine g_iload_n C (f := 1) dX5_init_92 1 rfl ?_
    refine g_aload_n C (f := 0) dX5_init_93 0 rfl ?_
    obtain ⟨c25, h⟩ := ck_e h
    refine g_getf C (k := 3) (kd := 2) okX5 (by decide) kf_RX5_21 dX5_init_94 ⟨T0.1, by omega⟩ T0.2.1 rfl ?_
    refine g_set C c25.1.symm ?_
    have F26 : 0 < x0 + 3 ∧ ty_ (x0 + 3) = 25 ∧ ln_ (x0 + 3) = 8 := ⟨by omega, c25.2.1⟩
    have _ := c25.2.2
    refine g_alen C 25 8 dX5_init_97 ⟨F26.1, by omega⟩ F26.2.1 F26.2.2 (by decide) (by decide) ?_
    refine g_icmp_ge C 120 dX5_init_98 rfl (fun c27 => ?_) (fun c27 => ?_)
    · replace h := if_t h c27
      refine g_aload_n C (f := 0) dX5_init_120 0 rfl ?_
      obtain ⟨c29, h⟩ := ck_e h
      obtain ⟨c30, h⟩ := ckp_e h
      obtain ⟨q28, eq28, h⟩ := bd_e h
      refine g_in (D := (fun a => x0 ≤ a ∧ a < z)) c30.2 ?_
      have Cq28 : MC_ (E0_ E (fun a => x0 ≤ a ∧ a < z)) p s m c cX5_init 2 RX5 := C
      have F31 : (E0_ E (fun a => x0 ≤ a ∧ a < z)).2.2.2.2.2 (x0) ∧ ty_ (x0) = 5 ∧ ln_ (x0) = 0 := ⟨⟨by omega, by omega⟩, T0.2⟩
      refine g_cVk Cq28 [] (cX5_startAnew_ok l c30.1 F31 eq28) okX5 T0.2.1 ⟨T0.1, by omega⟩ km_RX5_37 cv_X5_startAnew rfl (by decide) rfl rfl (by omega) ⟨by show _ ≤ (63 : Nat); omega, by show _ ≤ 2000 * 63; omega⟩ (Nat.le_of_ble_eq_true rfl) dX5_init_121 ?_
      refine g_out hE ?_
      obtain ⟨c32, h⟩ := ck_e h
      refine g_sz (sz' := x0 + 1 + (63 : Nat)) (by omega) ?_
      cases h
      exact g_vret C dX5_init_124 hr hlk
    · replace h := if_f h c27
      obtain ⟨c33, h⟩ := ck_e h
      refine g_aload_n C (f := 0) dX5_init_101 0 rfl ?_
      obtain ⟨c34, h⟩ := ck_e h
      refine g_getf C (k := 3) (kd := 2) okX5 (by decide) kf_RX5_21 dX5_init_102 ⟨T0.1, by omega⟩ T0.2.1 rfl ?_
      refine g_set C c34.1.symm ?_
      have F35 : 0 < x0 + 3 ∧ ty_ (x0 + 3) = 25 ∧ ln_ (x0 + 3) = 8 := ⟨by omega, c34.2.1⟩
      have _ := c34.2.2
      refine g_iload_n C (f := 1) dX5_init_105 1 rfl ?_
      obtain ⟨c36, h⟩ := ck_e h
      refine g_new C okX8 kcl_RX5_15 kins_X8 kin_X8_init hE c36.1 gtX8 (by omega) ⟨by show _ ≤ (63 : Nat); omega, by show _ ≤ 2000 * 63; omega⟩ (by decide) dX5_init_106 ?_
      have F37 : 0 < z ∧ ty_ (z) = 8 ∧ ln_ (z) = 0 := ⟨by omega, c36⟩
      refine g_sz (sz' := z + 1) (by omega) ?_
      refine g_dup C (Nat.ne_of_beq_eq_false rfl) dX5_init_109 ?_
      obtain ⟨q38, eq38, h⟩ := bd_e h
      refine g_sz (sz' := z + 1) (by omega) ?_
      refine g_callIN C (K := 0) hA (cX8_init_ok l hE F37 eq38) ⟨F37.1, by omega⟩ km_RX5_36 kim_X8_init kin_X8_init kco_X8_init ⟨by decide +kernel, by decide +kernel, by decide +kernel⟩ rfl (by decide) rfl rfl (by omega) ⟨by show _ ≤ (63 : Nat); omega, by show _ ≤ 2000 * 63; omega⟩ (Nat.le_of_ble_eq_true rfl) dX5_init_110 ?_
      refine g_sz (sz' := z + 1) (by omega) ?_
      obtain ⟨c39, h⟩ := ck_e h
      obtain ⟨v40, ev40, h⟩ := lt_e h
      refine g_aast C 25 8 okX8 (Or.inl ⟨rfl, rfl⟩) hE ⟨F35.1, by omega⟩ F35.2.1 F35.2.2 c39 ⟨F37.1, by omega⟩ F37.2.1 dX5_init_113 ?_
      refine g_setv C ev40 ?_
      obtain ⟨y41, ey41, h⟩ := lt_e h
      refine g_iincx C (ls' := [(1, (0, y41)), (0, (2, x0))]) ey41 dX5_init_114 1 rfl (by decide) (by decide) rfl ?_
      refine g_goto C 92 dX5_init_117 rfl ?_
      refine g_sub [1, 0] rfl rfl ?_
      exact H _ _ _ (by omega) h
theorem tX5_init_62 (C : MC_ E p s m c cX5_init 2 RX5) (hr : meth.sig.returnType = none) (hlk : meth.locks = false) (hin : meth.name = "<init>") (hA : KA_ s) (hE : ∀ a, ¬ E.2.2.2.2.2 a) {x0 : Int} (T0 : 0 < x0 ∧ ty_ x0 = 5 ∧ ln_ x0 = 0) {out : Int × V_} : ∀ (n : Nat) (x1 z : Int) (v : V_), x0 + 1 ≤ z → fX5_init_62 n x0 x1 z v = some out → G_ E p l e (rmc_ 2 43 63) s m args below meth c 2 (x0 + 1) (Q_ E below args s (x0 + 1) (x0 + 1 + (63 : Nat)) 9 out.1 out.2) 62 [(0, (2, x0)), (1, (0, x1))] [] v z := by
  intro n
  induction n with
  | zero =>
    intro x1 z v hz h
    cases h
  | succ n H =>
    intro x1 z v hz h
    rw [fX5_init_62] at h
    refine g_iload_n C (f := 1) dX5_init_62 1 rfl ?_
    refine g_aload_n C (f := 0) dX5_init_63 0 rfl ?_
    obtain ⟨c22, h⟩ := ck_e h
    refine g_getf C (k := 2) (kd := 2) okX5 (by decide) kf_RX5_17 dX5_init_64 ⟨T0.1, by omega⟩ T0.2.1 rfl ?_
    refine g_set C c22.1.symm ?_
    have F23 : 0 < x0 + 2 ∧ ty_ (x0 + 2) = 25 ∧ ln_ (x0 + 2) = 48 := ⟨by omega, c22.2.1⟩
    have _ := c22.2.2
    refine g_alen C 25 48 dX5_init_67 ⟨F23.1, by omega⟩ F23.2.1 F23.2.2 (by decide) (by decide) ?_
    refine g_icmp_ge C 90 dX5_init_68 rfl (fun c24 => ?_) (fun c24 => ?_)
    · replace h := if_t h c24
      refine g_iconst C (n := 0) dX5_init_90 (by decide) ?_
      refine g_istore_n C (f := 1) (ls' := [(1, (0, 0)), (0, (2, x0))]) dX5_init_91 (by decide) rfl ?_
      refine g_sub [1, 0] rfl rfl ?_
      exact tX5_init_92 C hr hlk hin hA hE T0 _ _ _ _ (by omega) h
    · replace h := if_f h c24
      obtain ⟨c42, h⟩ := ck_e h
      refine g_aload_n C (f := 0) dX5_init_71 0 rfl ?_
      obtain ⟨c43, h⟩ := ck_e h
      refine g_getf C (k := 2) (kd := 2) okX5 (by decide) kf_RX5_17 dX5_init_72 ⟨T0.1, by omega⟩ T0.2.1 rfl ?_
      refine g_set C c43.1.symm ?_
      have F44 : 0 < x0 + 2 ∧ ty_ (x0 + 2) = 25 ∧ ln_ (x0 + 2) = 48 := ⟨by omega, c43.2.1⟩
      have _ := c43.2.2
      refine g_iload_n C (f := 1) dX5_init_75 1 rfl ?_
      obtain ⟨c45, h⟩ := ck_e h
      refine g_new C okX8 kcl_RX5_15 kins_X8 kin_X8_init hE c45.1 gtX8 (by omega) ⟨by show _ ≤ (63 : Nat); omega, by show _ ≤ 2000 * 63; omega⟩ (by decide) dX5_init_76 ?_
      have F46 : 0 < z ∧ ty_ (z) = 8 ∧ ln_ (z) = 0 := ⟨by omega, c45⟩
      refine g_sz (sz' := z + 1) (by omega) ?_
      refine g_dup C (Nat.ne_of_beq_eq_false rfl) dX5_init_79 ?_
      obtain ⟨q47, eq47, h⟩ := bd_e h
      refine g_sz (sz' := z + 1) (by omega) ?_
      refine g_callIN C (K := 0) hA (cX8_init_ok l hE F46 eq47) ⟨F46.1, by omega⟩ km_RX5_36 kim_X8_init kin_X8_init kco_X8_init ⟨by decide +kernel, by decide +kernel, by decide +kernel⟩ rfl (by decide) rfl rfl (by omega) ⟨by show _ ≤ (63 : Nat); omega, by show _ ≤ 2000 * 63; omega⟩ (Nat.le_of_ble_eq_true rfl) dX5_init_80 ?_
      refine g_sz (sz' := z + 1) (by omega) ?_
      obtain ⟨c48, h⟩ := ck_e h
      obtain ⟨v49, ev49, h⟩ := lt_e h
      refine g_aast C 25 48 okX8 (Or.inl ⟨rfl, rfl⟩) hE ⟨F44.1, by omega⟩ F44.2.1 F44.2.2 c48 ⟨F46.1, by omega⟩ F46.2.1 dX5_init_83 ?_
      refine g_setv C ev49 ?_
      obtain ⟨y50, ey50, h⟩ := lt_e h
      refine g_iincx C (ls' := [(1, (0, y50)), (0, (2, x0))]) ey50 dX5_init_84 1 rfl (by decide) (by decide) rfl ?_
      refine g_goto C 62 dX5_init_87 rfl ?_
      refine g_sub [1, 0] rfl rfl ?_
      exact H _ _ _ (by omega) h
end
set_option maxHeartbeats 20000000 in
theorem cX5_init_ok (l : Launch) {E : En_} (hE : ∀ a, ¬ E.2.2.2.2.2 a) {x0 : Int} {v : V_} {out : Int × V_} (T0 : 0 < x0 ∧ ty_ x0 = 5 ∧ ln_ x0 = 0) (h : fX5_init x0 v = some out) : Met l yX5_init [.code yX5_init cX5_init 2 none] (rmc_ 2 43 63) (PcA_ E (x0 + 1) v [(2, x0)]) (Qc_ E (x0 + 1 + (63 : Nat)) 9 out.1 out.2) 63 (2000 * 63) (fun q => E.1 < q) := by
  refine met_GK RX5 (by decide +kernel) rfl (Nat.le_of_ble_eq_true rfl) ?_
  intro p e s m args below meth c C hA hr hlk hin
  rw [fX5_init] at h
  refine g_aload_n C (f := 0) dX5_init_0 0 rfl ?_
  refine g_objI C kObj_RX5 kObjM kObjC T0.1 ⟨Nat.le_of_ble_eq_true rfl, Nat.le_of_ble_eq_true rfl⟩ dX5_init_1 ?_
  refine g_aload_n C (f := 0) dX5_init_4 0 rfl ?_
  refine g_bipush C (n := 8) dX5_init_5 (by decide) ?_
  obtain ⟨c1, h⟩ := ck_e h
  refine g_newa C (atype := .int) 20 8 kac_int hE (Or.inl ⟨rfl, rfl⟩) c1.1 c1.2 rfl (by omega) ⟨by show _ ≤ (63 : Nat); omega, by show _ ≤ 2000 * 63; omega⟩ (by decide) dX5_init_7 ?_
  have F2 : 0 < x0 + 1 ∧ ty_ (x0 + 1) = 20 ∧ ln_ (x0 + 1) = 8 := ⟨by omega, c1⟩
  refine g_sz (sz' := x0 + 2) (by omega) ?_
  obtain ⟨v3, ev3, h⟩ := lt_e h
  refine g_putF C hin (k := 1) (kd := 2) okX5 (by decide) kf_RX5_9 dX5_init_9 ⟨T0.1, by omega⟩ T0.2.1 rfl rfl nvA hE ?_
  refine g_setv C ev3 ?_
  refine g_aload_n C (f := 0) dX5_init_12 0 rfl ?_
  refine g_bipush C (n := 48) dX5_init_13 (by decide) ?_
  obtain ⟨c4, h⟩ := ck_e h
  refine g_anew C 25 48 kcl_RX5_15 hA.1 hE (Or.inl ⟨rfl, rfl⟩) c4.1 c4.2 rfl (by omega) ⟨by show _ ≤ (63 : Nat); omega, by show _ ≤ 2000 * 63; omega⟩ (by decide) dX5_init_15 ?_
  have F5 : 0 < x0 + 2 ∧ ty_ (x0 + 2) = 25 ∧ ln_ (x0 + 2) = 48 := ⟨by omega, c4⟩
  refine g_sz (sz' := x0 + 3) (by omega) ?_
  obtain ⟨v6, ev6, h⟩ := lt_e h
  refine g_putF C hin (k := 2) (kd := 2) okX5 (by decide) kf_RX5_17 dX5_init_18 ⟨T0.1, by omega⟩ T0.2.1 rfl rfl nvA hE ?_
  refine g_setv C ev6 ?_
  refine g_aload_n C (f := 0) dX5_init_21 0 rfl ?_
  refine g_bipush C (n := 8) dX5_init_22 (by decide) ?_
  obtain ⟨c7, h⟩ := ck_e h
  refine g_anew C 25 8 kcl_RX5_15 hA.1 hE (Or.inl ⟨rfl, rfl⟩) c7.1 c7.2 rfl (by omega) ⟨by show _ ≤ (63 : Nat); omega, by show _ ≤ 2000 * 63; omega⟩ (by decide) dX5_init_24 ?_
  have F8 : 0 < x0 + 3 ∧ ty_ (x0 + 3) = 25 ∧ ln_ (x0 + 3) = 8 := ⟨by omega, c7⟩
  refine g_sz (sz' := x0 + 4) (by omega) ?_
  obtain ⟨v9, ev9, h⟩ := lt_e h
  refine g_putF C hin (k := 3) (kd := 2) okX5 (by decide) kf_RX5_21 dX5_init_27 ⟨T0.1, by omega⟩ T0.2.1 rfl rfl nvA hE ?_
  refine g_setv C ev9 ?_
  refine g_aload_n C (f := 0) dX5_init_30 0 rfl ?_
  refine g_bipush C (n := 16) dX5_init_31 (by decide) ?_
  obtain ⟨c10, h⟩ := ck_e h
  refine g_newa C (atype := .int) 20 16 kac_int hE (Or.inl ⟨rfl, rfl⟩) c10.1 c10.2 rfl (by omega) ⟨by show _ ≤ (63 : Nat); omega, by show _ ≤ 2000 * 63; omega⟩ (by decide) dX5_init_33 ?_
  have F11 : 0 < x0 + 4 ∧ ty_ (x0 + 4) = 20 ∧ ln_ (x0 + 4) = 16 := ⟨by omega, c10⟩
  refine g_sz (sz' := x0 + 5) (by omega) ?_
  obtain ⟨v12, ev12, h⟩ := lt_e h
  refine g_putF C hin (k := 4) (kd := 2) okX5 (by decide) kf_RX5_24 dX5_init_35 ⟨T0.1, by omega⟩ T0.2.1 rfl rfl nvA hE ?_
  refine g_setv C ev12 ?_
  refine g_aload_n C (f := 0) dX5_init_38 0 rfl ?_
  refine g_bipush C (n := 8) dX5_init_39 (by decide) ?_
  obtain ⟨c13, h⟩ := ck_e h
  refine g_newa C (atype := .int) 20 8 kac_int hE (Or.inl ⟨rfl, rfl⟩) c13.1 c13.2 rfl (by omega) ⟨by show _ ≤ (63 : Nat); omega, by show _ ≤ 2000 * 63; omega⟩ (by decide) dX5_init_41 ?_
  have F14 : 0 < x0 + 5 ∧ ty_ (x0 + 5) = 20 ∧ ln_ (x0 + 5) = 8 := ⟨by omega, c13⟩
  refine g_sz (sz' := x0 + 6) (by omega) ?_
  obtain ⟨v15, ev15, h⟩ := lt_e h
  refine g_putF C hin (k := 5) (kd := 2) okX5 (by decide) kf_RX5_27 dX5_init_43 ⟨T0.1, by omega⟩ T0.2.1 rfl rfl nvA hE ?_
  refine g_setv C ev15 ?_
  refine g_aload_n C (f := 0) dX5_init_46 0 rfl ?_
  refine g_iconst C (n := 4) dX5_init_47 (by decide) ?_
  obtain ⟨c16, h⟩ := ck_e h
  refine g_newa C (atype := .int) 20 4 kac_int hE (Or.inl ⟨rfl, rfl⟩) c16.1 c16.2 rfl (by omega) ⟨by show _ ≤ (63 : Nat); omega, by show _ ≤ 2000 * 63; omega⟩ (by decide) dX5_init_48 ?_
  have F17 : 0 < x0 + 6 ∧ ty_ (x0 + 6) = 20 ∧ ln_ (x0 + 6) = 4 := ⟨by omega, c16⟩
  refine g_sz (sz' := x0 + 7) (by omega) ?_
  obtain ⟨v18, ev18, h⟩ := lt_e h
  refine g_putF C hin (k := 6) (kd := 2) okX5 (by decide) kf_RX5_30 dX5_init_50 ⟨T0.1, by omega⟩ T0.2.1 rfl rfl nvA hE ?_
  refine g_setv C ev18 ?_
  refine g_aload_n C (f := 0) dX5_init_53 0 rfl ?_
  refine g_iconst C (n := 4) dX5_init_54 (by decide) ?_
  obtain ⟨c19, h⟩ := ck_e h
  refine g_newa C (atype := .int) 20 4 kac_int hE (Or.inl ⟨rfl, rfl⟩) c19.1 c19.2 rfl (by omega) ⟨by show _ ≤ (63 : Nat); omega, by show _ ≤ 2000 * 63; omega⟩ (by decide) dX5_init_55 ?_
  have F20 : 0 < x0 + 7 ∧ ty_ (x0 + 7) = 20 ∧ ln_ (x0 + 7) = 4 := ⟨by omega, c19⟩
  refine g_sz (sz' := x0 + 8) (by omega) ?_
  obtain ⟨v21, ev21, h⟩ := lt_e h
  refine g_putF C hin (k := 7) (kd := 2) okX5 (by decide) kf_RX5_33 dX5_init_57 ⟨T0.1, by omega⟩ T0.2.1 rfl rfl nvA hE ?_
  refine g_setv C ev21 ?_
  refine g_iconst C (n := 0) dX5_init_60 (by decide) ?_
  refine g_istore_n C (f := 1) (ls' := [(1, (0, 0)), (0, (2, x0))]) dX5_init_61 (by decide) rfl ?_
  refine g_sub [1, 0] rfl rfl ?_
  exact tX5_init_62 C hr hlk hin hA hE T0 _ _ _ _ (by omega) h
theorem dX10_init_0 : decode cX10_init 0 = .ok (.aload_n 0, 1) := by decide +kernel
theorem dX10_init_1 : decode cX10_init 1 = .ok (.invokespecial 3, 3) := by decide +kernel
theorem dX10_init_4 : decode cX10_init 4 = .ok (.aload_n 0, 1) := by decide +kernel
theorem dX10_init_5 : decode cX10_init 5 = .ok (.iconst 4, 1) := by decide +kernel
theorem dX10_init_6 : decode cX10_init 6 = .ok (.newarray .int, 2) := by decide +kernel
theorem dX10_init_8 : decode cX10_init 8 = .ok (.putfield 9, 3) := by decide +kernel
theorem dX10_init_11 : decode cX10_init 11 = .ok (.aload_n 0, 1) := by decide +kernel
theorem dX10_init_12 : decode cX10_init 12 = .ok (.bipush 34, 2) := by decide +kernel
theorem dX10_init_14 : decode cX10_init 14 = .ok (.anewarray 15, 3) := by decide +kernel
theorem dX10_init_17 : decode cX10_init 17 = .ok (.putfield 17, 3) := by decide +kernel
theorem dX10_init_20 : decode cX10_init 20 = .ok (.aload_n 0, 1) := by decide +kernel
theorem dX10_init_21 : decode cX10_init 21 = .ok (.bipush 34, 2) := by decide +kernel
theorem dX10_init_23 : decode cX10_init 23 = .ok (.newarray .int, 2) := by decide +kernel
theorem dX10_init_25 : decode cX10_init 25 = .ok (.putfield 21, 3) := by decide +kernel
theorem dX10_init_28 : decode cX10_init 28 = .ok (.aload_n 0, 1) := by decide +kernel
theorem dX10_init_29 : decode cX10_init 29 = .ok (.sipush 1156, 3) := by decide +kernel
theorem dX10_init_32 : decode cX10_init 32 = .ok (.newarray .int, 2) := by decide +kernel
theorem dX10_init_34 : decode cX10_init 34 = .ok (.putfield 24, 3) := by decide +kernel
theorem dX10_init_37 : decode cX10_init 37 = .ok (.aload_n 0, 1) := by decide +kernel
theorem dX10_init_38 : decode cX10_init 38 = .ok (.bipush 6, 2) := by decide +kernel
theorem dX10_init_40 : decode cX10_init 40 = .ok (.newarray .int, 2) := by decide +kernel
theorem dX10_init_42 : decode cX10_init 42 = .ok (.putfield 27, 3) := by decide +kernel
theorem dX10_init_45 : decode cX10_init 45 = .ok (.aload_n 0, 1) := by decide +kernel
theorem dX10_init_46 : decode cX10_init 46 = .ok (.bipush 12, 2) := by decide +kernel
theorem dX10_init_48 : decode cX10_init 48 = .ok (.newarray .int, 2) := by decide +kernel
theorem dX10_init_50 : decode cX10_init 50 = .ok (.putfield 30, 3) := by decide +kernel
theorem dX10_init_53 : decode cX10_init 53 = .ok (.iconst 0, 1) := by decide +kernel
theorem dX10_init_54 : decode cX10_init 54 = .ok (.istore_n 1, 1) := by decide +kernel
theorem dX10_init_55 : decode cX10_init 55 = .ok (.iload_n 1, 1) := by decide +kernel
theorem dX10_init_56 : decode cX10_init 56 = .ok (.aload_n 0, 1) := by decide +kernel
theorem dX10_init_57 : decode cX10_init 57 = .ok (.getfield 17, 3) := by decide +kernel
theorem dX10_init_60 : decode cX10_init 60 = .ok (.arraylength, 1) := by decide +kernel
theorem dX10_init_61 : decode cX10_init 61 = .ok (.if_icmp .ge 22, 3) := by decide +kernel
theorem dX10_init_64 : decode cX10_init 64 = .ok (.aload_n 0, 1) := by decide +kernel
theorem dX10_init_65 : decode cX10_init 65 = .ok (.getfield 17, 3) := by decide +kernel
theorem dX10_init_68 : decode cX10_init 68 = .ok (.iload_n 1, 1) := by decide +kernel
theorem dX10_init_69 : decode cX10_init 69 = .ok (.new 15, 3) := by decide +kernel
theorem dX10_init_72 : decode cX10_init 72 = .ok (.dup, 1) := by decide +kernel
theorem dX10_init_73 : decode cX10_init 73 = .ok (.invokespecial 33, 3) := by decide +kernel
theorem dX10_init_76 : decode cX10_init 76 = .ok (.aastore, 1) := by decide +kernel
theorem dX10_init_77 : decode cX10_init 77 = .ok (.iinc 1 1, 3) := by decide +kernel
theorem dX10_init_80 : decode cX10_init 80 = .ok (.goto (-25), 3) := by decide +kernel
theorem dX10_init_83 : decode cX10_init 83 = .ok (.return_, 1) := by decide +kernel
noncomputable def fX10_init_55 : Nat → Int → Int → Int → V_ → Option (Int × V_)
  | 0, _, _, _, _ => none
  | n + 1, x0, x1, z, v =>
    ck_ (v x0 2 = x0 + 2 ∧ (ty_ (x0 + 2) = 26 ∧ ln_ (x0 + 2) = 34) ∧ x0 + 2 < z) (
    if 34 ≤ x1 then (
      ck_ (z = x0 + 1 + 74) (
      some (0, v)))
    else (
    ck_ (x0 + 1 ≤ z ∧ z + 2 ≤ x0 + 1 + 74) (
      ck_ (v x0 2 = x0 + 2 ∧ (ty_ (x0 + 2) = 26 ∧ ln_ (x0 + 2) = 34) ∧ x0 + 2 < z) (
      ck_ (ty_ (z) = 1 ∧ ln_ (z) = 0) (
      bd_ (fX1_init z (zr_ v (z))) fun q28 =>
      ck_ (0 ≤ x1 ∧ x1 < 34) (
      lt_ (up_ q28.2 (x0 + 2) x1 z) fun v30 =>
      lt_ (wr_ (x1 + 1)) fun y31 =>
      fX10_init_55 n x0 y31 (z + 2) v30))))))
noncomputable def fX10_init (x0 : Int) (v : V_) : Option (Int × V_) :=
  ck_ (ty_ (x0 + 1) = 20 ∧ ln_ (x0 + 1) = 4) (
  lt_ (up_ (zr_ v (x0 + 1)) x0 0 (x0 + 1)) fun v3 =>
  ck_ (ty_ (x0 + 2) = 26 ∧ ln_ (x0 + 2) = 34) (
  lt_ (up_ (zr_ v3 (x0 + 2)) x0 2 (x0 + 2)) fun v6 =>
  ck_ (ty_ (x0 + 3) = 20 ∧ ln_ (x0 + 3) = 34) (
  lt_ (up_ (zr_ v6 (x0 + 3)) x0 12 (x0 + 3)) fun v9 =>
  ck_ (ty_ (x0 + 4) = 20 ∧ ln_ (x0 + 4) = 1156) (
  lt_ (up_ (zr_ v9 (x0 + 4)) x0 13 (x0 + 4)) fun v12 =>
  ck_ (ty_ (x0 + 5) = 20 ∧ ln_ (x0 + 5) = 6) (
  lt_ (up_ (zr_ v12 (x0 + 5)) x0 14 (x0 + 5)) fun v15 =>
  ck_ (ty_ (x0 + 6) = 20 ∧ ln_ (x0 + 6) = 12) (
  lt_ (up_ (zr_ v15 (x0 + 6)) x0 15 (x0 + 6)) fun v18 =>
  fX10_init_55 fu_ x0 0 (x0 + 7) v18))))))
section
variable {E : En_} {p : Program} {l : Launch} {e : Env} {s : State} {m : MethodId} {args : Array Value} {below : List Frame} {meth : Method} {c : Code} {aK aV : Nat}
theorem tX10_init_55 (C : MC_ E p s m c cX10_init 2 RX10) (hr : meth.sig.returnType = none) (hlk : meth.locks = false) (hin : meth.name = "<init>") (hA : KA_ s) (hE : ∀ a, ¬ E.2.2.2.2.2 a) {x0 : Int} (T0 : 0 < x0 ∧ ty_ x0 = 10 ∧ ln_ x0 = 0) {out : Int × V_} : ∀ (n : Nat) (x1 z : Int) (v : V_), x0 + 1 ≤ z → fX10_init_55 n x0 x1 z v = some out → G_ E p l e (rmc_ 3 60 74) s m args below meth c 2 (x0 + 1) (Q_ E below args s (x0 + 1) (x0 + 1 + (74 : Nat)) 9 out.1 out.2) 55 [(0, (2, x0)), (1, (0, x1))] [] v z := by
  intro n
  induction n with
  | zero =>
    intro x1 z v hz h
    cases h
  | succ n H =>
    intro x1 z v hz h
    rw [fX10_init_55] at h
    refine g_iload_n C (f := 1) dX10_init_55 1 rfl ?_
    refine g_aload_n C (f := 0) dX10_init_56 0 rfl ?_
    obtain ⟨c19, h⟩ := ck_e h
    refine g_getf C (k := 2) (kd := 2) okX10 (by decide) kf_RX10_17 dX10_init_57 ⟨T0.1, by omega⟩ T0.2.1 rfl ?_
    refine g_set C c19.1.symm ?_
    have F20 : 0 < x0 + 2 ∧ ty_ (x0 + 2) = 26 ∧ ln_ (x0 + 2) = 34 := ⟨by omega, c19.2.1⟩
    have _ := c19.2.2
    refine g_alen C 26 34 dX10_init_60 ⟨F20.1, by omega⟩ F20.2.1 F20.2.2 (by decide) (by decide) ?_
    refine g_icmp_ge C 83 dX10_init_61 rfl (fun c21 => ?_) (fun c21 => ?_)
    · replace h := if_t h c21
      obtain ⟨c22, h⟩ := ck_e h
      refine g_sz (sz' := x0 + 1 + (74 : Nat)) (by omega) ?_
      cases h
      exact g_vret C dX10_init_83 hr hlk
    · replace h := if_f h c21
      obtain ⟨c23, h⟩ := ck_e h
      refine g_aload_n C (f := 0) dX10_init_64 0 rfl ?_
      obtain ⟨c24, h⟩ := ck_e h
      refine g_getf C (k := 2) (kd := 2) okX10 (by decide) kf_RX10_17 dX10_init_65 ⟨T0.1, by omega⟩ T0.2.1 rfl ?_
      refine g_set C c24.1.symm ?_
      have F25 : 0 < x0 + 2 ∧ ty_ (x0 + 2) = 26 ∧ ln_ (x0 + 2) = 34 := ⟨by omega, c24.2.1⟩
      have _ := c24.2.2
      refine g_iload_n C (f := 1) dX10_init_68 1 rfl ?_
      obtain ⟨c26, h⟩ := ck_e h
      refine g_new C okX1 kcl_RX10_15 kins_X1 kin_X1_init hE c26.1 gtX1 (by omega) ⟨by show _ ≤ (74 : Nat); omega, by show _ ≤ 2000 * 74; omega⟩ (by decide) dX10_init_69 ?_
      have F27 : 0 < z ∧ ty_ (z) = 1 ∧ ln_ (z) = 0 := ⟨by omega, c26⟩
      refine g_sz (sz' := z + 1) (by omega) ?_
      refine g_dup C (Nat.ne_of_beq_eq_false rfl) dX10_init_72 ?_
      obtain ⟨q28, eq28, h⟩ := bd_e h
      refine g_sz (sz' := z + 1) (by omega) ?_
      refine g_callIN C (K := 1) hA (cX1_init_ok l hE F27 eq28) ⟨F27.1, by omega⟩ km_RX10_33 kim_X1_init kin_X1_init kco_X1_init ⟨by decide +kernel, by decide +kernel, by decide +kernel⟩ rfl (by decide) rfl rfl (by omega) ⟨by show _ ≤ (74 : Nat); omega, by show _ ≤ 2000 * 74; omega⟩ (Nat.le_of_ble_eq_true rfl) dX10_init_73 ?_
      refine g_sz (sz' := z + 2) (by omega) ?_
      obtain ⟨c29, h⟩ := ck_e h
      obtain ⟨v30, ev30, h⟩ := lt_e h
      refine g_aast C 26 34 okX1 (Or.inr (Or.inl ⟨rfl, rfl⟩)) hE ⟨F25.1, by omega⟩ F25.2.1 F25.2.2 c29 ⟨F27.1, by omega⟩ F27.2.1 dX10_init_76 ?_
      refine g_setv C ev30 ?_
      obtain ⟨y31, ey31, h⟩ := lt_e h
      refine g_iincx C (ls' := [(1, (0, y31)), (0, (2, x0))]) ey31 dX10_init_77 1 rfl (by decide) (by decide) rfl ?_
      refine g_goto C 55 dX10_init_80 rfl ?_
      refine g_sub [1, 0] rfl rfl ?_
      exact H _ _ _ (by omega) h
end
set_option maxHeartbeats 20000000 in
theorem cX10_init_ok (l : Launch) {E : En_} (hE : ∀ a, ¬ E.2.2.2.2.2 a) {x0 : Int} {v : V_} {out : Int × V_} (T0 : 0 < x0 ∧ ty_ x0 = 10 ∧ ln_ x0 = 0) (h : fX10_init x0 v = some out) : Met l yX10_init [.code yX10_init cX10_init 2 none] (rmc_ 3 60 74) (PcA_ E (x0 + 1) v [(2, x0)]) (Qc_ E (x0 + 1 + (74 : Nat)) 9 out.1 out.2) 74 (2000 * 74) (fun q => E.1 < q) := by
  refine met_GK RX10 (by decide +kernel) rfl (Nat.le_of_ble_eq_true rfl) ?_
  intro p e s m args below meth c C hA hr hlk hin
  rw [fX10_init] at h
  refine g_aload_n C (f := 0) dX10_init_0 0 rfl ?_
  refine g_objI C kObj_RX10 kObjM kObjC T0.1 ⟨Nat.le_of_ble_eq_true rfl, Nat.le_of_ble_eq_true rfl⟩ dX10_init_1 ?_
  refine g_aload_n C (f := 0) dX10_init_4 0 rfl ?_
  refine g_iconst C (n := 4) dX10_init_5 (by decide) ?_
  obtain ⟨c1, h⟩ := ck_e h
  refine g_newa C (atype := .int) 20 4 kac_int hE (Or.inl ⟨rfl, rfl⟩) c1.1 c1.2 rfl (by omega) ⟨by show _ ≤ (74 : Nat); omega, by show _ ≤ 2000 * 74; omega⟩ (by decide) dX10_init_6 ?_
  have F2 : 0 < x0 + 1 ∧ ty_ (x0 + 1) = 20 ∧ ln_ (x0 + 1) = 4 := ⟨by omega, c1⟩
  refine g_sz (sz' := x0 + 2) (by omega) ?_
  obtain ⟨v3, ev3, h⟩ := lt_e h
  refine g_putF C hin (k := 0) (kd := 2) okX10 (by decide) kf_RX10_9 dX10_init_8 ⟨T0.1, by omega⟩ T0.2.1 rfl rfl nvA hE ?_
  refine g_setv C ev3 ?_
  refine g_aload_n C (f := 0) dX10_init_11 0 rfl ?_
  refine g_bipush C (n := 34) dX10_init_12 (by decide) ?_
  obtain ⟨c4, h⟩ := ck_e h
  refine g_anew C 26 34 kcl_RX10_15 hA.2.1 hE (Or.inr (Or.inl ⟨rfl, rfl⟩)) c4.1 c4.2 rfl (by omega) ⟨by show _ ≤ (74 : Nat); omega, by show _ ≤ 2000 * 74; omega⟩ (by decide) dX10_init_14 ?_
  have F5 : 0 < x0 + 2 ∧ ty_ (x0 + 2) = 26 ∧ ln_ (x0 + 2) = 34 := ⟨by omega, c4⟩
  refine g_sz (sz' := x0 + 3) (by omega) ?_
  obtain ⟨v6, ev6, h⟩ := lt_e h
  refine g_putF C hin (k := 2) (kd := 2) okX10 (by decide) kf_RX10_17 dX10_init_17 ⟨T0.1, by omega⟩ T0.2.1 rfl rfl nvA hE ?_
  refine g_setv C ev6 ?_
  refine g_aload_n C (f := 0) dX10_init_20 0 rfl ?_
  refine g_bipush C (n := 34) dX10_init_21 (by decide) ?_
  obtain ⟨c7, h⟩ := ck_e h
  refine g_newa C (atype := .int) 20 34 kac_int hE (Or.inl ⟨rfl, rfl⟩) c7.1 c7.2 rfl (by omega) ⟨by show _ ≤ (74 : Nat); omega, by show _ ≤ 2000 * 74; omega⟩ (by decide) dX10_init_23 ?_
  have F8 : 0 < x0 + 3 ∧ ty_ (x0 + 3) = 20 ∧ ln_ (x0 + 3) = 34 := ⟨by omega, c7⟩
  refine g_sz (sz' := x0 + 4) (by omega) ?_
  obtain ⟨v9, ev9, h⟩ := lt_e h
  refine g_putF C hin (k := 12) (kd := 2) okX10 (by decide) kf_RX10_21 dX10_init_25 ⟨T0.1, by omega⟩ T0.2.1 rfl rfl nvA hE ?_
  refine g_setv C ev9 ?_
  refine g_aload_n C (f := 0) dX10_init_28 0 rfl ?_
  refine g_sipush C (n := 1156) dX10_init_29 (by decide) ?_
  obtain ⟨c10, h⟩ := ck_e h
  refine g_newa C (atype := .int) 20 1156 kac_int hE (Or.inl ⟨rfl, rfl⟩) c10.1 c10.2 rfl (by omega) ⟨by show _ ≤ (74 : Nat); omega, by show _ ≤ 2000 * 74; omega⟩ (by decide) dX10_init_32 ?_
  have F11 : 0 < x0 + 4 ∧ ty_ (x0 + 4) = 20 ∧ ln_ (x0 + 4) = 1156 := ⟨by omega, c10⟩
  refine g_sz (sz' := x0 + 5) (by omega) ?_
  obtain ⟨v12, ev12, h⟩ := lt_e h
  refine g_putF C hin (k := 13) (kd := 2) okX10 (by decide) kf_RX10_24 dX10_init_34 ⟨T0.1, by omega⟩ T0.2.1 rfl rfl nvA hE ?_
  refine g_setv C ev12 ?_
  refine g_aload_n C (f := 0) dX10_init_37 0 rfl ?_
  refine g_bipush C (n := 6) dX10_init_38 (by decide) ?_
  obtain ⟨c13, h⟩ := ck_e h
  refine g_newa C (atype := .int) 20 6 kac_int hE (Or.inl ⟨rfl, rfl⟩) c13.1 c13.2 rfl (by omega) ⟨by show _ ≤ (74 : Nat); omega, by show _ ≤ 2000 * 74; omega⟩ (by decide) dX10_init_40 ?_
  have F14 : 0 < x0 + 5 ∧ ty_ (x0 + 5) = 20 ∧ ln_ (x0 + 5) = 6 := ⟨by omega, c13⟩
  refine g_sz (sz' := x0 + 6) (by omega) ?_
  obtain ⟨v15, ev15, h⟩ := lt_e h
  refine g_putF C hin (k := 14) (kd := 2) okX10 (by decide) kf_RX10_27 dX10_init_42 ⟨T0.1, by omega⟩ T0.2.1 rfl rfl nvA hE ?_
  refine g_setv C ev15 ?_
  refine g_aload_n C (f := 0) dX10_init_45 0 rfl ?_
  refine g_bipush C (n := 12) dX10_init_46 (by decide) ?_
  obtain ⟨c16, h⟩ := ck_e h
  refine g_newa C (atype := .int) 20 12 kac_int hE (Or.inl ⟨rfl, rfl⟩) c16.1 c16.2 rfl (by omega) ⟨by show _ ≤ (74 : Nat); omega, by show _ ≤ 2000 * 74; omega⟩ (by decide) dX10_init_48 ?_
  have F17 : 0 < x0 + 6 ∧ ty_ (x0 + 6) = 20 ∧ ln_ (x0 + 6) = 12 := ⟨by omega, c16⟩
  refine g_sz (sz' := x0 + 7) (by omega) ?_
  obtain ⟨v18, ev18, h⟩ := lt_e h
  refine g_putF C hin (k := 15) (kd := 2) okX10 (by decide) kf_RX10_30 dX10_init_50 ⟨T0.1, by omega⟩ T0.2.1 rfl rfl nvA hE ?_
  refine g_setv C ev18 ?_
  refine g_iconst C (n := 0) dX10_init_53 (by decide) ?_
  refine g_istore_n C (f := 1) (ls' := [(1, (0, 0)), (0, (2, x0))]) dX10_init_54 (by decide) rfl ?_
  refine g_sub [1, 0] rfl rfl ?_
  exact tX10_init_55 C hr hlk hin hA hE T0 _ _ _ _ (by omega) h
theorem dX4_init_0 : decode cX4_init 0 = .ok (.aload_n 0, 1) := by decide +kernel
theorem dX4_init_1 : decode cX4_init 1 = .ok (.invokespecial 3, 3) := by decide +kernel
theorem dX4_init_4 : decode cX4_init 4 = .ok (.aload_n 0, 1) := by decide +kernel
theorem dX4_init_5 : decode cX4_init 5 = .ok (.bipush 8, 2) := by decide +kernel
theorem dX4_init_7 : decode cX4_init 7 = .ok (.anewarray 9, 3) := by decide +kernel
theorem dX4_init_10 : decode cX4_init 10 = .ok (.putfield 11, 3) := by decide +kernel
theorem dX4_init_13 : decode cX4_init 13 = .ok (.aload_n 0, 1) := by decide +kernel
theorem dX4_init_14 : decode cX4_init 14 = .ok (.bipush 8, 2) := by decide +kernel
theorem dX4_init_16 : decode cX4_init 16 = .ok (.newarray .int, 2) := by decide +kernel
theorem dX4_init_18 : decode cX4_init 18 = .ok (.putfield 17, 3) := by decide +kernel
theorem dX4_init_21 : decode cX4_init 21 = .ok (.aload_n 0, 1) := by decide +kernel
theorem dX4_init_22 : decode cX4_init 22 = .ok (.bipush 8, 2) := by decide +kernel
theorem dX4_init_24 : decode cX4_init 24 = .ok (.newarray .int, 2) := by decide +kernel
theorem dX4_init_26 : decode cX4_init 26 = .ok (.putfield 21, 3) := by decide +kernel
theorem dX4_init_29 : decode cX4_init 29 = .ok (.aload_n 0, 1) := by decide +kernel
theorem dX4_init_30 : decode cX4_init 30 = .ok (.iconst 4, 1) := by decide +kernel
theorem dX4_init_31 : decode cX4_init 31 = .ok (.newarray .int, 2) := by decide +kernel
theorem dX4_init_33 : decode cX4_init 33 = .ok (.putfield 24, 3) := by decide +kernel
theorem dX4_init_36 : decode cX4_init 36 = .ok (.aload_n 0, 1) := by decide +kernel
theorem dX4_init_37 : decode cX4_init 37 = .ok (.new 27, 3) := by decide +kernel
theorem dX4_init_40 : decode cX4_init 40 = .ok (.dup, 1) := by decide +kernel
theorem dX4_init_41 : decode cX4_init 41 = .ok (.invokespecial 29, 3) := by decide +kernel
theorem dX4_init_44 : decode cX4_init 44 = .ok (.putfield 30, 3) := by decide +kernel
theorem dX4_init_47 : decode cX4_init 47 = .ok (.iconst 0, 1) := by decide +kernel
theorem dX4_init_48 : decode cX4_init 48 = .ok (.istore_n 1, 1) := by decide +kernel
theorem dX4_init_49 : decode cX4_init 49 = .ok (.iload_n 1, 1) := by decide +kernel
theorem dX4_init_50 : decode cX4_init 50 = .ok (.aload_n 0, 1) := by decide +kernel
theorem dX4_init_51 : decode cX4_init 51 = .ok (.getfield 11, 3) := by decide +kernel
theorem dX4_init_54 : decode cX4_init 54 = .ok (.arraylength, 1) := by decide +kernel
theorem dX4_init_55 : decode cX4_init 55 = .ok (.if_icmp .ge 22, 3) := by decide +kernel
theorem dX4_init_58 : decode cX4_init 58 = .ok (.aload_n 0, 1) := by decide +kernel
theorem dX4_init_59 : decode cX4_init 59 = .ok (.getfield 11, 3) := by decide +kernel
theorem dX4_init_62 : decode cX4_init 62 = .ok (.iload_n 1, 1) := by decide +kernel
theorem dX4_init_63 : decode cX4_init 63 = .ok (.new 9, 3) := by decide +kernel
theorem dX4_init_66 : decode cX4_init 66 = .ok (.dup, 1) := by decide +kernel
theorem dX4_init_67 : decode cX4_init 67 = .ok (.invokespecial 34, 3) := by decide +kernel
theorem dX4_init_70 : decode cX4_init 70 = .ok (.aastore, 1) := by decide +kernel
theorem dX4_init_71 : decode cX4_init 71 = .ok (.iinc 1 1, 3) := by decide +kernel
theorem dX4_init_74 : decode cX4_init 74 = .ok (.goto (-25), 3) := by decide +kernel
theorem dX4_init_77 : decode cX4_init 77 = .ok (.return_, 1) := by decide +kernel
noncomputable def fX4_init_49 : Nat → Int → Int → Int → V_ → Option (Int × V_)
  | 0, _, _, _, _ => none
  | n + 1, x0, x1, z, v =>
    ck_ (v x0 2 = x0 + 1 ∧ (ty_ (x0 + 1) = 27 ∧ ln_ (x0 + 1) = 8) ∧ x0 + 1 < z) (
    if 8 ≤ x1 then (
      ck_ (z = x0 + 1 + 610) (
      some (0, v)))
    else (
    ck_ (x0 + 1 ≤ z ∧ z + 75 ≤ x0 + 1 + 610) (
      ck_ (v x0 2 = x0 + 1 ∧ (ty_ (x0 + 1) = 27 ∧ ln_ (x0 + 1) = 8) ∧ x0 + 1 < z) (
      ck_ (ty_ (z) = 10 ∧ ln_ (z) = 0) (
      bd_ (fX10_init z (zr_ v (z))) fun q26 =>
      ck_ (0 ≤ x1 ∧ x1 < 8) (
      lt_ (up_ q26.2 (x0 + 1) x1 z) fun v28 =>
      lt_ (wr_ (x1 + 1)) fun y29 =>
      fX4_init_49 n x0 y29 (z + 75) v28))))))
noncomputable def fX4_init (x0 : Int) (v : V_) : Option (Int × V_) :=
  ck_ (ty_ (x0 + 1) = 27 ∧ ln_ (x0 + 1) = 8) (
  lt_ (up_ (zr_ v (x0 + 1)) x0 2 (x0 + 1)) fun v3 =>
  ck_ (ty_ (x0 + 2) = 20 ∧ ln_ (x0 + 2) = 8) (
  lt_ (up_ (zr_ v3 (x0 + 2)) x0 3 (x0 + 2)) fun v6 =>
  ck_ (ty_ (x0 + 3) = 20 ∧ ln_ (x0 + 3) = 8) (
  lt_ (up_ (zr_ v6 (x0 + 3)) x0 4 (x0 + 3)) fun v9 =>
  ck_ (ty_ (x0 + 4) = 20 ∧ ln_ (x0 + 4) = 4) (
  lt_ (up_ (zr_ v9 (x0 + 4)) x0 5 (x0 + 4)) fun v12 =>
  ck_ (ty_ (x0 + 5) = 2 ∧ ln_ (x0 + 5) = 0) (
  bd_ (fX2_init (x0 + 5) (zr_ v12 (x0 + 5))) fun q15 =>
  lt_ (up_ q15.2 x0 6 (x0 + 5)) fun v16 =>
  fX4_init_49 fu_ x0 0 (x0 + 11) v16)))))
section
variable {E : En_} {p : Program} {l : Launch} {e : Env} {s : State} {m : MethodId} {args : Array Value} {below : List Frame} {meth : Method} {c : Code} {aK aV : Nat}
theorem tX4_init_49 (C : MC_ E p s m c cX4_init 2 RX4) (hr : meth.sig.returnType = none) (hlk : meth.locks = false) (hin : meth.name = "<init>") (hA : KA_ s) (hE : ∀ a, ¬ E.2.2.2.2.2 a) {x0 : Int} (T0 : 0 < x0 ∧ ty_ x0 = 4 ∧ ln_ x0 = 0) {out : Int × V_} : ∀ (n : Nat) (x1 z : Int) (v : V_), x0 + 1 ≤ z → fX4_init_49 n x0 x1 z v = some out → G_ E p l e (rmc_ 4 81 610) s m args below meth c 2 (x0 + 1) (Q_ E below args s (x0 + 1) (x0 + 1 + (610 : Nat)) 9 out.1 out.2) 49 [(0, (2, x0)), (1, (0, x1))] [] v z := by
  intro n
  induction n with
  | zero =>
    intro x1 z v hz h
    cases h
  | succ n H =>
    intro x1 z v hz h
    rw [fX4_init_49] at h
    refine g_iload_n C (f := 1) dX4_init_49 1 rfl ?_
    refine g_aload_n C (f := 0) dX4_init_50 0 rfl ?_
    obtain ⟨c17, h⟩ := ck_e h
    refine g_getf C (k := 2) (kd := 2) okX4 (by decide) kf_RX4_11 dX4_init_51 ⟨T0.1, by omega⟩ T0.2.1 rfl ?_
    refine g_set C c17.1.symm ?_
    have F18 : 0 < x0 + 1 ∧ ty_ (x0 + 1) = 27 ∧ ln_ (x0 + 1) = 8 := ⟨by omega, c17.2.1⟩
    have _ := c17.2.2
    refine g_alen C 27 8 dX4_init_54 ⟨F18.1, by omega⟩ F18.2.1 F18.2.2 (by decide) (by decide) ?_
    refine g_icmp_ge C 77 dX4_init_55 rfl (fun c19 => ?_) (fun c19 => ?_)
    · replace h := if_t h c19
      obtain ⟨c20, h⟩ := ck_e h
      refine g_sz (sz' := x0 + 1 + (610 : Nat)) (by omega) ?_
      cases h
      exact g_vret C dX4_init_77 hr hlk
    · replace h := if_f h c19
      obtain ⟨c21, h⟩ := ck_e h
      refine g_aload_n C (f := 0) dX4_init_58 0 rfl ?_
      obtain ⟨c22, h⟩ := ck_e h
      refine g_getf C (k := 2) (kd := 2) okX4 (by decide) kf_RX4_11 dX4_init_59 ⟨T0.1, by omega⟩ T0.2.1 rfl ?_
      refine g_set C c22.1.symm ?_
      have F23 : 0 < x0 + 1 ∧ ty_ (x0 + 1) = 27 ∧ ln_ (x0 + 1) = 8 := ⟨by omega, c22.2.1⟩
      have _ := c22.2.2
      refine g_iload_n C (f := 1) dX4_init_62 1 rfl ?_
      obtain ⟨c24, h⟩ := ck_e h
      refine g_new C okX10 kcl_RX4_9 kins_X10 kin_X10_init hE c24.1 gtX10 (by omega) ⟨by show _ ≤ (610 : Nat); omega, by show _ ≤ 2000 * 610; omega⟩ (by decide) dX4_init_63 ?_
      have F25 : 0 < z ∧ ty_ (z) = 10 ∧ ln_ (z) = 0 := ⟨by omega, c24⟩
      refine g_sz (sz' := z + 1) (by omega) ?_
      refine g_dup C (Nat.ne_of_beq_eq_false rfl) dX4_init_66 ?_
      obtain ⟨q26, eq26, h⟩ := bd_e h
      refine g_sz (sz' := z + 1) (by omega) ?_
      refine g_callI C (K := 74) hA (cX10_init_ok l hE F25 eq26) ⟨F25.1, by omega⟩ km_RX4_34 kim_X10_init kin_X10_init kco_X10_init ⟨by decide +kernel, by decide +kernel, by decide +kernel⟩ rfl (by decide) rfl rfl (by omega) ⟨by show _ ≤ (610 : Nat); omega, by show _ ≤ 2000 * 610; omega⟩ (Nat.le_of_ble_eq_true rfl) dX4_init_67 ?_
      refine g_sz (sz' := z + 75) (by omega) ?_
      obtain ⟨c27, h⟩ := ck_e h
      obtain ⟨v28, ev28, h⟩ := lt_e h
      refine g_aast C 27 8 okX10 (Or.inr (Or.inr ⟨rfl, rfl⟩)) hE ⟨F23.1, by omega⟩ F23.2.1 F23.2.2 c27 ⟨F25.1, by omega⟩ F25.2.1 dX4_init_70 ?_
      refine g_setv C ev28 ?_
      obtain ⟨y29, ey29, h⟩ := lt_e h
      refine g_iincx C (ls' := [(1, (0, y29)), (0, (2, x0))]) ey29 dX4_init_71 1 rfl (by decide) (by decide) rfl ?_
      refine g_goto C 49 dX4_init_74 rfl ?_
      refine g_sub [1, 0] rfl rfl ?_
      exact H _ _ _ (by omega) h
end
set_option maxHeartbeats 20000000 in
theorem cX4_init_ok (l : Launch) {E : En_} (hE : ∀ a, ¬ E.2.2.2.2.2 a) {x0 : Int} {v : V_} {out : Int × V_} (T0 : 0 < x0 ∧ ty_ x0 = 4 ∧ ln_ x0 = 0) (h : fX4_init x0 v = some out) : Met l yX4_init [.code yX4_init cX4_init 2 none] (rmc_ 4 81 610) (PcA_ E (x0 + 1) v [(2, x0)]) (Qc_ E (x0 + 1 + (610 : Nat)) 9 out.1 out.2) 610 (2000 * 610) (fun q => E.1 < q) := by
  refine met_GK RX4 (by decide +kernel) rfl (Nat.le_of_ble_eq_true rfl) ?_
  intro p e s m args below meth c C hA hr hlk hin
  rw [fX4_init] at h
  refine g_aload_n C (f := 0) dX4_init_0 0 rfl ?_
  refine g_objI C kObj_RX4 kObjM kObjC T0.1 ⟨Nat.le_of_ble_eq_true rfl, Nat.le_of_ble_eq_true rfl⟩ dX4_init_1 ?_
  refine g_aload_n C (f := 0) dX4_init_4 0 rfl ?_
  refine g_bipush C (n := 8) dX4_init_5 (by decide) ?_
  obtain ⟨c1, h⟩ := ck_e h
  refine g_anew C 27 8 kcl_RX4_9 hA.2.2.1 hE (Or.inr (Or.inr ⟨rfl, rfl⟩)) c1.1 c1.2 rfl (by omega) ⟨by show _ ≤ (610 : Nat); omega, by show _ ≤ 2000 * 610; omega⟩ (by decide) dX4_init_7 ?_
  have F2 : 0 < x0 + 1 ∧ ty_ (x0 + 1) = 27 ∧ ln_ (x0 + 1) = 8 := ⟨by omega, c1⟩
  refine g_sz (sz' := x0 + 2) (by omega) ?_
  obtain ⟨v3, ev3, h⟩ := lt_e h
  refine g_putF C hin (k := 2) (kd := 2) okX4 (by decide) kf_RX4_11 dX4_init_10 ⟨T0.1, by omega⟩ T0.2.1 rfl rfl nvA hE ?_
  refine g_setv C ev3 ?_
  refine g_aload_n C (f := 0) dX4_init_13 0 rfl ?_
  refine g_bipush C (n := 8) dX4_init_14 (by decide) ?_
  obtain ⟨c4, h⟩ := ck_e h
  refine g_newa C (atype := .int) 20 8 kac_int hE (Or.inl ⟨rfl, rfl⟩) c4.1 c4.2 rfl (by omega) ⟨by show _ ≤ (610 : Nat); omega, by show _ ≤ 2000 * 610; omega⟩ (by decide) dX4_init_16 ?_
  have F5 : 0 < x0 + 2 ∧ ty_ (x0 + 2) = 20 ∧ ln_ (x0 + 2) = 8 := ⟨by omega, c4⟩
  refine g_sz (sz' := x0 + 3) (by omega) ?_
  obtain ⟨v6, ev6, h⟩ := lt_e h
  refine g_putF C hin (k := 3) (kd := 2) okX4 (by decide) kf_RX4_17 dX4_init_18 ⟨T0.1, by omega⟩ T0.2.1 rfl rfl nvA hE ?_
  refine g_setv C ev6 ?_
  refine g_aload_n C (f := 0) dX4_init_21 0 rfl ?_
  refine g_bipush C (n := 8) dX4_init_22 (by decide) ?_
  obtain ⟨c7, h⟩ := ck_e h
  refine g_newa C (atype := .int) 20 8 kac_int hE (Or.inl ⟨rfl, rfl⟩) c7.1 c7.2 rfl (by omega) ⟨by show _ ≤ (610 : Nat); omega, by show _ ≤ 2000 * 610; omega⟩ (by decide) dX4_init_24 ?_
  have F8 : 0 < x0 + 3 ∧ ty_ (x0 + 3) = 20 ∧ ln_ (x0 + 3) = 8 := ⟨by omega, c7⟩
  refine g_sz (sz' := x0 + 4) (by omega) ?_
  obtain ⟨v9, ev9, h⟩ := lt_e h
  refine g_putF C hin (k := 4) (kd := 2) okX4 (by decide) kf_RX4_21 dX4_init_26 ⟨T0.1, by omega⟩ T0.2.1 rfl rfl nvA hE ?_
  refine g_setv C ev9 ?_
  refine g_aload_n C (f := 0) dX4_init_29 0 rfl ?_
  refine g_iconst C (n := 4) dX4_init_30 (by decide) ?_
  obtain ⟨c10, h⟩ := ck_e h
  refine g_newa C (atype := .int) 20 4 kac_int hE (Or.inl ⟨rfl, rfl⟩) c10.1 c10.2 rfl (by omega) ⟨by show _ ≤ (610 : Nat); omega, by show _ ≤ 2000 * 610; omega⟩ (by decide) dX4_init_31 ?_
  have F11 : 0 < x0 + 4 ∧ ty_ (x0 + 4) = 20 ∧ ln_ (x0 + 4) = 4 := ⟨by omega, c10⟩
  refine g_sz (sz' := x0 + 5) (by omega) ?_
  obtain ⟨v12, ev12, h⟩ := lt_e h
  refine g_putF C hin (k := 5) (kd := 2) okX4 (by decide) kf_RX4_24 dX4_init_33 ⟨T0.1, by omega⟩ T0.2.1 rfl rfl nvA hE ?_
  refine g_setv C ev12 ?_
  refine g_aload_n C (f := 0) dX4_init_36 0 rfl ?_
  obtain ⟨c13, h⟩ := ck_e h
  refine g_new C okX2 kcl_RX4_27 kins_X2 kin_X2_init hE c13.1 gtX2 (by omega) ⟨by show _ ≤ (610 : Nat); omega, by show _ ≤ 2000 * 610; omega⟩ (by decide) dX4_init_37 ?_
  have F14 : 0 < x0 + 5 ∧ ty_ (x0 + 5) = 2 ∧ ln_ (x0 + 5) = 0 := ⟨by omega, c13⟩
  refine g_sz (sz' := x0 + 6) (by omega) ?_
  refine g_dup C (Nat.ne_of_beq_eq_false rfl) dX4_init_40 ?_
  obtain ⟨q15, eq15, h⟩ := bd_e h
  refine g_sz (sz' := (x0 + 5) + 1) (by omega) ?_
  refine g_callIN C (K := 5) hA (cX2_init_ok l hE F14 eq15) ⟨F14.1, by omega⟩ km_RX4_29 kim_X2_init kin_X2_init kco_X2_init ⟨by decide +kernel, by decide +kernel, by decide +kernel⟩ rfl (by decide) rfl rfl (by omega) ⟨by show _ ≤ (610 : Nat); omega, by show _ ≤ 2000 * 610; omega⟩ (Nat.le_of_ble_eq_true rfl) dX4_init_41 ?_
  refine g_sz (sz' := x0 + 11) (by omega) ?_
  obtain ⟨v16, ev16, h⟩ := lt_e h
  refine g_putF C hin (k := 6) (kd := 2) okX4 (by decide) kf_RX4_30 dX4_init_44 ⟨T0.1, by omega⟩ T0.2.1 rfl rfl nvR hE ?_
  refine g_setv C ev16 ?_
  refine g_iconst C (n := 0) dX4_init_47 (by decide) ?_
  refine g_istore_n C (f := 1) (ls' := [(1, (0, 0)), (0, (2, x0))]) dX4_init_48 (by decide) rfl ?_
  refine g_sub [1, 0] rfl rfl ?_
  exact tX4_init_49 C hr hlk hin hA hE T0 _ _ _ _ (by omega) h
