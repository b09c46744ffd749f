theorem dX0_init_0 : decode cX0_init 0 = .ok (.aload_n 0, 1) := by decide +kernel
theorem dX0_init_1 : decode cX0_init 1 = .ok (.invokespecial 3, 3) := by decide +kernel
theorem dX0_init_4 : decode cX0_init 4 = .ok (.aload_n 0, 1) := by decide +kernel
theorem dX0_init_5 : decode cX0_init 5 = .ok (.bipush 40, 2) := by decide +kernel
theorem dX0_init_7 : decode cX0_init 7 = .ok (.bipush 47, 2) := by decide +kernel
theorem dX0_init_9 : decode cX0_init 9 = .ok (.multianewarray 11 2, 4) := by decide +kernel
theorem dX0_init_13 : decode cX0_init 13 = .ok (.putfield 13, 3) := by decide +kernel
theorem dX0_init_16 : decode cX0_init 16 = .ok (.aload_n 0, 1) := by decide +kernel
theorem dX0_init_17 : decode cX0_init 17 = .ok (.iconst 3, 1) := by decide +kernel
theorem dX0_init_18 : decode cX0_init 18 = .ok (.bipush 47, 2) := by decide +kernel
theorem dX0_init_20 : decode cX0_init 20 = .ok (.multianewarray 11 2, 4) := by decide +kernel
theorem dX0_init_24 : decode cX0_init 24 = .ok (.putfield 18, 3) := by decide +kernel
theorem dX0_init_27 : decode cX0_init 27 = .ok (.aload_n 0, 1) := by decide +kernel
theorem dX0_init_28 : decode cX0_init 28 = .ok (.iconst 3, 1) := by decide +kernel
theorem dX0_init_29 : decode cX0_init 29 = .ok (.newarray .boolean, 2) := by decide +kernel
theorem dX0_init_31 : decode cX0_init 31 = .ok (.putfield 21, 3) := by decide +kernel
theorem dX0_init_34 : decode cX0_init 34 = .ok (.return_, 1) := by decide +kernel
noncomputable def fX0_init (x0 : Int) (v : V_) : Option (Int × V_) :=
  ck_ ((ty_ (x0 + 1) = 24 ∧ ln_ (x0 + 1) = 40) ∧ ∀ j : Nat, j < 40 → ty_ (x0 + 1 + 1 + (j : Int)) = 20 ∧ ln_ (x0 + 1 + 1 + (j : Int)) = 47) (
  lt_ (up_ (mz_ v (x0 + 1) 40) x0 0 (x0 + 1)) fun v3 =>
  ck_ ((ty_ (x0 + 42) = 24 ∧ ln_ (x0 + 42) = 3) ∧ ∀ j : Nat, j < 3 → ty_ (x0 + 42 + 1 + (j : Int)) = 20 ∧ ln_ (x0 + 42 + 1 + (j : Int)) = 47) (
  lt_ (up_ (mz_ v3 (x0 + 42) 3) x0 1 (x0 + 42)) fun v6 =>
  ck_ (ty_ (x0 + 46) = 23 ∧ ln_ (x0 + 46) = 3) (
  lt_ (up_ (zr_ v6 (x0 + 46)) x0 2 (x0 + 46)) fun v9 =>
  some (0, v9))))
set_option maxHeartbeats 20000000 in
theorem cX0_init_ok (l : Launch) {E : En_} (hE : ∀ a, ¬ E.2.2.2.2.2 a) {x0 : Int} {v : V_} {out : Int × V_} (T0 : 0 < x0 ∧ ty_ x0 = 0 ∧ ln_ x0 = 0) (h : fX0_init x0 v = some out) : Met l yX0_init [.code yX0_init cX0_init 1 none] (rmc_ 1 20 46) (PcA_ E (x0 + 1) v [(2, x0)]) (Qc_ E (x0 + 1 + (46 : Nat)) 9 out.1 out.2) 46 (2000 * 46) (fun q => E.1 < q) := by
  refine met_GK RX0 (by decide +kernel) rfl (Nat.le_of_ble_eq_true rfl) ?_
  intro p e s m args below meth c C hA hr hlk hin
  rw [fX0_init] at h
  refine g_aload_n C (f := 0) dX0_init_0 0 rfl ?_
  refine g_objI C kObj_RX0 kObjM kObjC T0.1 ⟨Nat.le_of_ble_eq_true rfl, Nat.le_of_ble_eq_true rfl⟩ dX0_init_1 ?_
  refine g_aload_n C (f := 0) dX0_init_4 0 rfl ?_
  refine g_bipush C (n := 40) dX0_init_5 (by decide) ?_
  refine g_bipush C (n := 47) dX0_init_7 (by decide) ?_
  obtain ⟨c2, h⟩ := ck_e h
  refine g_mna C 40 47 kcl_RX0_11 kac_int hA.2.2.2 hE c2.1.1 c2.1.2 c2.2 rfl rfl (by omega) ⟨by show _ ≤ (46 : Nat); omega, by show _ ≤ 2000 * 46; omega⟩ (by decide) (by decide) dX0_init_9 ?_
  have F1 : 0 < x0 + 1 ∧ ty_ (x0 + 1) = 24 ∧ ln_ (x0 + 1) = 40 := ⟨by omega, c2.1⟩
  refine g_sz (sz' := x0 + 42) (by omega) ?_
  obtain ⟨v3, ev3, h⟩ := lt_e h
  refine g_putF C hin (k := 0) (kd := 2) okX0 (by decide) kf_RX0_13 dX0_init_13 ⟨T0.1, by omega⟩ T0.2.1 rfl rfl nvA hE ?_
  refine g_setv C ev3 ?_
  refine g_aload_n C (f := 0) dX0_init_16 0 rfl ?_
  refine g_iconst C (n := 3) dX0_init_17 (by decide) ?_
  refine g_bipush C (n := 47) dX0_init_18 (by decide) ?_
  obtain ⟨c5, h⟩ := ck_e h
  refine g_mna C 3 47 kcl_RX0_11 kac_int hA.2.2.2 hE c5.1.1 c5.1.2 c5.2 rfl rfl (by omega) ⟨by show _ ≤ (46 : Nat); omega, by show _ ≤ 2000 * 46; omega⟩ (by decide) (by decide) dX0_init_20 ?_
  have F4 : 0 < x0 + 42 ∧ ty_ (x0 + 42) = 24 ∧ ln_ (x0 + 42) = 3 := ⟨by omega, c5.1⟩
  refine g_sz (sz' := x0 + 46) (by omega) ?_
  obtain ⟨v6, ev6, h⟩ := lt_e h
  refine g_putF C hin (k := 1) (kd := 2) okX0 (by decide) kf_RX0_18 dX0_init_24 ⟨T0.1, by omega⟩ T0.2.1 rfl rfl nvA hE ?_
  refine g_setv C ev6 ?_
  refine g_aload_n C (f := 0) dX0_init_27 0 rfl ?_
  refine g_iconst C (n := 3) dX0_init_28 (by decide) ?_
  obtain ⟨c7, h⟩ := ck_e h
  refine g_newa C (atype := .boolean) 23 3 kac_boolean hE (Or.inr (Or.inr (Or.inr ⟨rfl, rfl⟩))) c7.1 c7.2 rfl (by omega) ⟨by show _ ≤ (46 : Nat); omega, by show _ ≤ 2000 * 46; omega⟩ (by decide) dX0_init_29 ?_
  have F8 : 0 < x0 + 46 ∧ ty_ (x0 + 46) = 23 ∧ ln_ (x0 + 46) = 3 := ⟨by omega, c7⟩
  refine g_sz (sz' := x0 + 47) (by omega) ?_
  obtain ⟨v9, ev9, h⟩ := lt_e h
  refine g_putF C hin (k := 2) (kd := 2) okX0 (by decide) kf_RX0_21 dX0_init_31 ⟨T0.1, by omega⟩ T0.2.1 rfl rfl nvA hE ?_
  refine g_setv C ev9 ?_
  refine g_sz (sz' := x0 + 1 + (46 : Nat)) (by omega) ?_
  cases h
  exact g_vret C dX0_init_34 hr hlk
