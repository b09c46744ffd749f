theorem dX11_init_0 : decode cX11_init 0 = .ok (.aload_n 0, 1) := by decide +kernel
theorem dX11_init_1 : decode cX11_init 1 = .ok (.invokespecial 3, 3) := by decide +kernel
theorem dX11_init_4 : decode cX11_init 4 = .ok (.aload_n 0, 1) := by decide +kernel
theorem dX11_init_5 : decode cX11_init 5 = .ok (.sipush 2000, 3) := by decide +kernel
theorem dX11_init_8 : decode cX11_init 8 = .ok (.newarray .byte, 2) := by decide +kernel
theorem dX11_init_10 : decode cX11_init 10 = .ok (.putfield 9, 3) := by decide +kernel
theorem dX11_init_13 : decode cX11_init 13 = .ok (.aload_n 0, 1) := by decide +kernel
theorem dX11_init_14 : decode cX11_init 14 = .ok (.iconst (-1), 1) := by decide +kernel
theorem dX11_init_15 : decode cX11_init 15 = .ok (.putfield 13, 3) := by decide +kernel
theorem dX11_init_18 : decode cX11_init 18 = .ok (.aload_n 0, 1) := by decide +kernel
theorem dX11_init_19 : decode cX11_init 19 = .ok (.new 17, 3) := by decide +kernel
theorem dX11_init_22 : decode cX11_init 22 = .ok (.dup, 1) := by decide +kernel
theorem dX11_init_23 : decode cX11_init 23 = .ok (.invokespecial 19, 3) := by decide +kernel
theorem dX11_init_26 : decode cX11_init 26 = .ok (.putfield 20, 3) := by decide +kernel
theorem dX11_init_29 : decode cX11_init 29 = .ok (.aload_n 0, 1) := by decide +kernel
theorem dX11_init_30 : decode cX11_init 30 = .ok (.new 24, 3) := by decide +kernel
theorem dX11_init_33 : decode cX11_init 33 = .ok (.dup, 1) := by decide +kernel
theorem dX11_init_34 : decode cX11_init 34 = .ok (.invokespecial 26, 3) := by decide +kernel
theorem dX11_init_37 : decode cX11_init 37 = .ok (.putfield 27, 3) := by decide +kernel
theorem dX11_init_40 : decode cX11_init 40 = .ok (.aload_n 0, 1) := by decide +kernel
theorem dX11_init_41 : decode cX11_init 41 = .ok (.new 24, 3) := by decide +kernel
theorem dX11_init_44 : decode cX11_init 44 = .ok (.dup, 1) := by decide +kernel
theorem dX11_init_45 : decode cX11_init 45 = .ok (.invokespecial 26, 3) := by decide +kernel
theorem dX11_init_48 : decode cX11_init 48 = .ok (.putfield 31, 3) := by decide +kernel
theorem dX11_init_51 : decode cX11_init 51 = .ok (.aload_n 0, 1) := by decide +kernel
theorem dX11_init_52 : decode cX11_init 52 = .ok (.new 34, 3) := by decide +kernel
theorem dX11_init_55 : decode cX11_init 55 = .ok (.dup, 1) := by decide +kernel
theorem dX11_init_56 : decode cX11_init 56 = .ok (.invokespecial 36, 3) := by decide +kernel
theorem dX11_init_59 : decode cX11_init 59 = .ok (.putfield 37, 3) := by decide +kernel
theorem dX11_init_62 : decode cX11_init 62 = .ok (.aload_n 0, 1) := by decide +kernel
theorem dX11_init_63 : decode cX11_init 63 = .ok (.new 41, 3) := by decide +kernel
theorem dX11_init_66 : decode cX11_init 66 = .ok (.dup, 1) := by decide +kernel
theorem dX11_init_67 : decode cX11_init 67 = .ok (.invokespecial 43, 3) := by decide +kernel
theorem dX11_init_70 : decode cX11_init 70 = .ok (.putfield 44, 3) := by decide +kernel
theorem dX11_init_73 : decode cX11_init 73 = .ok (.aload_n 0, 1) := by decide +kernel
theorem dX11_init_74 : decode cX11_init 74 = .ok (.new 48, 3) := by decide +kernel
theorem dX11_init_77 : decode cX11_init 77 = .ok (.dup, 1) := by decide +kernel
theorem dX11_init_78 : decode cX11_init 78 = .ok (.invokespecial 50, 3) := by decide +kernel
theorem dX11_init_81 : decode cX11_init 81 = .ok (.putfield 51, 3) := by decide +kernel
theorem dX11_init_84 : decode cX11_init 84 = .ok (.aload_n 0, 1) := by decide +kernel
theorem dX11_init_85 : decode cX11_init 85 = .ok (.new 55, 3) := by decide +kernel
theorem dX11_init_88 : decode cX11_init 88 = .ok (.dup, 1) := by decide +kernel
theorem dX11_init_89 : decode cX11_init 89 = .ok (.invokespecial 57, 3) := by decide +kernel
theorem dX11_init_92 : decode cX11_init 92 = .ok (.putfield 58, 3) := by decide +kernel
theorem dX11_init_95 : decode cX11_init 95 = .ok (.aload_n 0, 1) := by decide +kernel
theorem dX11_init_96 : decode cX11_init 96 = .ok (.new 55, 3) := by decide +kernel
theorem dX11_init_99 : decode cX11_init 99 = .ok (.dup, 1) := by decide +kernel
theorem dX11_init_100 : decode cX11_init 100 = .ok (.invokespecial 57, 3) := by decide +kernel
theorem dX11_init_103 : decode cX11_init 103 = .ok (.putfield 62, 3) := by decide +kernel
theorem dX11_init_106 : decode cX11_init 106 = .ok (.aload_n 0, 1) := by decide +kernel
theorem dX11_init_107 : decode cX11_init 107 = .ok (.getfield 37, 3) := by decide +kernel
theorem dX11_init_110 : decode cX11_init 110 = .ok (.aload_n 0, 1) := by decide +kernel
theorem dX11_init_111 : decode cX11_init 111 = .ok (.getfield 27, 3) := by decide +kernel
theorem dX11_init_114 : decode cX11_init 114 = .ok (.invokevirtual 65, 3) := by decide +kernel
theorem dX11_init_117 : decode cX11_init 117 = .ok (.return_, 1) := by decide +kernel
noncomputable def fX11_init_62 (x0 : Int) (v : V_) : Option (Int × V_) :=
  ck_ (ty_ (x0 + 141) = 0 ∧ ln_ (x0 + 141) = 0) (
  bd_ (fX0_init (x0 + 141) (zr_ v (x0 + 141))) fun q23 =>
  lt_ (up_ q23.2 x0 7 (x0 + 141)) fun v24 =>
  ck_ (ty_ (x0 + 188) = 4 ∧ ln_ (x0 + 188) = 0) (
  bd_ (fX4_init (x0 + 188) (zr_ v24 (x0 + 188))) fun q27 =>
  lt_ (up_ q27.2 x0 8 (x0 + 188)) fun v28 =>
  ck_ (ty_ (x0 + 799) = 6 ∧ ln_ (x0 + 799) = 0) (
  bd_ (fX6_init (x0 + 799) (zr_ v28 (x0 + 799))) fun q31 =>
  lt_ (up_ q31.2 x0 9 (x0 + 799)) fun v32 =>
  ck_ (ty_ (x0 + 806) = 6 ∧ ln_ (x0 + 806) = 0) (
  bd_ (fX6_init (x0 + 806) (zr_ v32 (x0 + 806))) fun q35 =>
  lt_ (up_ q35.2 x0 10 (x0 + 806)) fun v36 =>
  ck_ (v36 x0 6 = x0 + 139 ∧ (ty_ (x0 + 139) = 7 ∧ ln_ (x0 + 139) = 0) ∧ x0 + 139 < x0 + 813) (
  ck_ (v36 x0 4 = x0 + 11 ∧ (ty_ (x0 + 11) = 5 ∧ ln_ (x0 + 11) = 0) ∧ x0 + 11 < x0 + 813) (
  ckp_ (Sc_ x0 (x0 + 813) v36) (
  bd_ (fX7_begin (x0 + 139) (x0 + 11) v36) fun q41 =>
  some (0, q41.2))))))))
noncomputable def fX11_init (x0 : Int) (v : V_) : Option (Int × V_) :=
  ck_ (ty_ (x0 + 1) = 21 ∧ ln_ (x0 + 1) = 2000) (
  lt_ (up_ (zr_ v (x0 + 1)) x0 0 (x0 + 1)) fun v3 =>
  lt_ (up_ v3 x0 2 (-1)) fun v4 =>
  ck_ (ty_ (x0 + 2) = 3 ∧ ln_ (x0 + 2) = 0) (
  bd_ (fX3_init (x0 + 2) (zr_ v4 (x0 + 2))) fun q7 =>
  lt_ (up_ q7.2 x0 3 (x0 + 2)) fun v8 =>
  ck_ (ty_ (x0 + 11) = 5 ∧ ln_ (x0 + 11) = 0) (
  bd_ (fX5_init (x0 + 11) (zr_ v8 (x0 + 11))) fun q11 =>
  lt_ (up_ q11.2 x0 4 (x0 + 11)) fun v12 =>
  ck_ (ty_ (x0 + 75) = 5 ∧ ln_ (x0 + 75) = 0) (
  bd_ (fX5_init (x0 + 75) (zr_ v12 (x0 + 75))) fun q15 =>
  lt_ (up_ q15.2 x0 5 (x0 + 75)) fun v16 =>
  ck_ (ty_ (x0 + 139) = 7 ∧ ln_ (x0 + 139) = 0) (
  bd_ (fX7_init (x0 + 139) (zr_ v16 (x0 + 139))) fun q19 =>
  lt_ (up_ q19.2 x0 6 (x0 + 139)) fun v20 =>
  fX11_init_62 x0 v20)))))
section
variable {E : En_} {p : Program} {l : Launch} {e : Env} {s : State} {m : MethodId} {args : Array Value} {below : List Frame} {meth : Method} {c : Code} {aK aV : Nat}
set_option maxHeartbeats 4000000 in
theorem tX11_init_62 (C : MC_ E p s m c cX11_init 1 RX11) (hr : meth.sig.returnType = none) (hlk : meth.locks = false) (hin : meth.name = "<init>") (hA : KA_ s) (hS : KS_ E aK aV s) (hE : ∀ a, ¬ E.2.2.2.2.2 a) {x0 : Int} (T0 : 0 < x0 ∧ ty_ x0 = 11 ∧ ln_ x0 = 0) {out : Int × V_} {v : V_} (h : fX11_init_62 x0 v = some out) : G_ E p l e (rmc_ 6 128 812) s m args below meth c 1 (x0 + 1) (Q_ E below args s (x0 + 1) (x0 + 1 + (812 : Nat)) 9 out.1 out.2) 62 [(0, (2, x0))] [] v (x0 + 141) := by
  rw [fX11_init_62] at h
  refine g_aload_n C (f := 0) dX11_init_62 0 rfl ?_
  obtain ⟨c21, h⟩ := ck_e h
  refine g_new C okX0 kcl_RX11_41 kins_X0 kin_X0_init hE c21.1 gtX0 (by omega) ⟨by show _ ≤ (812 : Nat); omega, by show _ ≤ 2000 * 812; omega⟩ (by decide) dX11_init_63 ?_
  have F22 : 0 < x0 + 141 ∧ ty_ (x0 + 141) = 0 ∧ ln_ (x0 + 141) = 0 := ⟨by omega, c21⟩
  refine g_sz (sz' := x0 + 142) (by omega) ?_
  refine g_dup C (Nat.ne_of_beq_eq_false rfl) dX11_init_66 ?_
  obtain ⟨q23, eq23, h⟩ := bd_e h
  refine g_sz (sz' := (x0 + 141) + 1) (by omega) ?_
  refine g_callIN C (K := 46) hA (cX0_init_ok l hE F22 eq23) ⟨F22.1, by omega⟩ km_RX11_43 kim_X0_init kin_X0_init kco_X0_init ⟨by decide +kernel, by decide +kernel, by decide +kernel⟩ rfl (by decide) rfl rfl (by omega) ⟨by show _ ≤ (812 : Nat); omega, by show _ ≤ 2000 * 812; omega⟩ (Nat.le_of_ble_eq_true rfl) dX11_init_67 ?_
  refine g_sz (sz' := x0 + 188) (by omega) ?_
  obtain ⟨v24, ev24, h⟩ := lt_e h
  refine g_putF C hin (k := 7) (kd := 2) okX11 (by decide) kf_RX11_44 dX11_init_70 ⟨T0.1, by omega⟩ T0.2.1 rfl rfl nvR hE ?_
  refine g_setv C ev24 ?_
  refine g_aload_n C (f := 0) dX11_init_73 0 rfl ?_
  obtain ⟨c25, h⟩ := ck_e h
  refine g_new C okX4 kcl_RX11_48 kins_X4 kin_X4_init hE c25.1 gtX4 (by omega) ⟨by show _ ≤ (812 : Nat); omega, by show _ ≤ 2000 * 812; omega⟩ (by decide) dX11_init_74 ?_
  have F26 : 0 < x0 + 188 ∧ ty_ (x0 + 188) = 4 ∧ ln_ (x0 + 188) = 0 := ⟨by omega, c25⟩
  refine g_sz (sz' := x0 + 189) (by omega) ?_
  refine g_dup C (Nat.ne_of_beq_eq_false rfl) dX11_init_77 ?_
  obtain ⟨q27, eq27, h⟩ := bd_e h
  refine g_sz (sz' := (x0 + 188) + 1) (by omega) ?_
  refine g_callI C (K := 610) hA (cX4_init_ok l hE F26 eq27) ⟨F26.1, by omega⟩ km_RX11_50 kim_X4_init kin_X4_init kco_X4_init ⟨by decide +kernel, by decide +kernel, by decide +kernel⟩ rfl (by decide) rfl rfl (by omega) ⟨by show _ ≤ (812 : Nat); omega, by show _ ≤ 2000 * 812; omega⟩ (Nat.le_of_ble_eq_true rfl) dX11_init_78 ?_
  refine g_sz (sz' := x0 + 799) (by omega) ?_
  obtain ⟨v28, ev28, h⟩ := lt_e h
  refine g_putF C hin (k := 8) (kd := 2) okX11 (by decide) kf_RX11_51 dX11_init_81 ⟨T0.1, by omega⟩ T0.2.1 rfl rfl nvR hE ?_
  refine g_setv C ev28 ?_
  refine g_aload_n C (f := 0) dX11_init_84 0 rfl ?_
  obtain ⟨c29, h⟩ := ck_e h
  refine g_new C okX6 kcl_RX11_55 kins_X6 kin_X6_init hE c29.1 gtX6 (by omega) ⟨by show _ ≤ (812 : Nat); omega, by show _ ≤ 2000 * 812; omega⟩ (by decide) dX11_init_85 ?_
  have F30 : 0 < x0 + 799 ∧ ty_ (x0 + 799) = 6 ∧ ln_ (x0 + 799) = 0 := ⟨by omega, c29⟩
  refine g_sz (sz' := x0 + 800) (by omega) ?_
  refine g_dup C (Nat.ne_of_beq_eq_false rfl) dX11_init_88 ?_
  obtain ⟨q31, eq31, h⟩ := bd_e h
  refine g_sz (sz' := (x0 + 799) + 1) (by omega) ?_
  refine g_callIN C (K := 6) hA (cX6_init_ok l hE F30 eq31) ⟨F30.1, by omega⟩ km_RX11_57 kim_X6_init kin_X6_init kco_X6_init ⟨by decide +kernel, by decide +kernel, by decide +kernel⟩ rfl (by decide) rfl rfl (by omega) ⟨by show _ ≤ (812 : Nat); omega, by show _ ≤ 2000 * 812; omega⟩ (Nat.le_of_ble_eq_true rfl) dX11_init_89 ?_
  refine g_sz (sz' := x0 + 806) (by omega) ?_
  obtain ⟨v32, ev32, h⟩ := lt_e h
  refine g_putF C hin (k := 9) (kd := 2) okX11 (by decide) kf_RX11_58 dX11_init_92 ⟨T0.1, by omega⟩ T0.2.1 rfl rfl nvR hE ?_
  refine g_setv C ev32 ?_
  refine g_aload_n C (f := 0) dX11_init_95 0 rfl ?_
  obtain ⟨c33, h⟩ := ck_e h
  refine g_new C okX6 kcl_RX11_55 kins_X6 kin_X6_init hE c33.1 gtX6 (by omega) ⟨by show _ ≤ (812 : Nat); omega, by show _ ≤ 2000 * 812; omega⟩ (by decide) dX11_init_96 ?_
  have F34 : 0 < x0 + 806 ∧ ty_ (x0 + 806) = 6 ∧ ln_ (x0 + 806) = 0 := ⟨by omega, c33⟩
  refine g_sz (sz' := x0 + 807) (by omega) ?_
  refine g_dup C (Nat.ne_of_beq_eq_false rfl) dX11_init_99 ?_
  obtain ⟨q35, eq35, h⟩ := bd_e h
  refine g_sz (sz' := (x0 + 806) + 1) (by omega) ?_
  refine g_callIN C (K := 6) hA (cX6_init_ok l hE F34 eq35) ⟨F34.1, by omega⟩ km_RX11_57 kim_X6_init kin_X6_init kco_X6_init ⟨by decide +kernel, by decide +kernel, by decide +kernel⟩ rfl (by decide) rfl rfl (by omega) ⟨by show _ ≤ (812 : Nat); omega, by show _ ≤ 2000 * 812; omega⟩ (Nat.le_of_ble_eq_true rfl) dX11_init_100 ?_
  refine g_sz (sz' := x0 + 813) (by omega) ?_
  obtain ⟨v36, ev36, h⟩ := lt_e h
  refine g_putF C hin (k := 10) (kd := 2) okX11 (by decide) kf_RX11_62 dX11_init_103 ⟨T0.1, by omega⟩ T0.2.1 rfl rfl nvR hE ?_
  refine g_setv C ev36 ?_
  refine g_aload_n C (f := 0) dX11_init_106 0 rfl ?_
  obtain ⟨c37, h⟩ := ck_e h
  refine g_getf C (k := 6) (kd := 2) okX11 (by decide) kf_RX11_37 dX11_init_107 ⟨T0.1, by omega⟩ T0.2.1 rfl ?_
  refine g_set C c37.1.symm ?_
  have F38 : 0 < x0 + 139 ∧ ty_ (x0 + 139) = 7 ∧ ln_ (x0 + 139) = 0 := ⟨by omega, c37.2.1⟩
  have _ := c37.2.2
  refine g_aload_n C (f := 0) dX11_init_110 0 rfl ?_
  obtain ⟨c39, h⟩ := ck_e h
  refine g_getf C (k := 4) (kd := 2) okX11 (by decide) kf_RX11_27 dX11_init_111 ⟨T0.1, by omega⟩ T0.2.1 rfl ?_
  refine g_set C c39.1.symm ?_
  have F40 : 0 < x0 + 11 ∧ ty_ (x0 + 11) = 5 ∧ ln_ (x0 + 11) = 0 := ⟨by omega, c39.2.1⟩
  have _ := c39.2.2
  obtain ⟨c42, h⟩ := ckp_e h
  obtain ⟨q41, eq41, h⟩ := bd_e h
  refine g_in (D := (fun a => x0 ≤ a ∧ a < x0 + 813)) c42.2 ?_
  have Cq41 : MC_ (E0_ E (fun a => x0 ≤ a ∧ a < x0 + 813)) p s m c cX11_init 1 RX11 := C
  have F43 : (E0_ E (fun a => x0 ≤ a ∧ a < x0 + 813)).2.2.2.2.2 (x0 + 139) ∧ ty_ (x0 + 139) = 7 ∧ ln_ (x0 + 139) = 0 := ⟨⟨by omega, by omega⟩, F38.2⟩
  have F44 : (E0_ E (fun a => x0 ≤ a ∧ a < x0 + 813)).2.2.2.2.2 (x0 + 11) ∧ ty_ (x0 + 11) = 5 ∧ ln_ (x0 + 11) = 0 := ⟨⟨by omega, by omega⟩, F40.2⟩
  refine g_cVk Cq41 [(2, x0 + 11)] (cX7_begin_ok l c42.1 F43 F44 eq41) okX7 F38.2.1 ⟨F38.1, by omega⟩ km_RX11_65 cv_X7_begin rfl (by decide) rfl rfl (by omega) ⟨by show _ ≤ (812 : Nat); omega, by show _ ≤ 2000 * 812; omega⟩ (Nat.le_of_ble_eq_true rfl) dX11_init_114 ?_
  refine g_out hE ?_
  refine g_sz (sz' := x0 + 1 + (812 : Nat)) (by omega) ?_
  cases h
  exact g_vret C dX11_init_117 hr hlk
end
set_option maxHeartbeats 20000000 in
theorem cX11_init_ok (l : Launch) {E : En_} {aK aV : Nat} (hE : ∀ a, ¬ E.2.2.2.2.2 a) {x0 : Int} {v : V_} {out : Int × V_} (T0 : 0 < x0 ∧ ty_ x0 = 11 ∧ ln_ x0 = 0) (h : fX11_init x0 v = some out) : Met l yX11_init [.code yX11_init cX11_init 1 none] (rmc_ 6 128 812) (PcT_ E (x0 + 1) v aK aV [(2, x0)]) (Qc_ E (x0 + 1 + (812 : Nat)) 9 out.1 out.2) 812 (2000 * 812) (fun q => E.1 < q) := by
  refine met_GT RX11 (by decide +kernel) rfl (Nat.le_of_ble_eq_true rfl) ?_
  intro p e s m args below meth c C hA hS hr hlk hin
  rw [fX11_init] at h
  refine g_aload_n C (f := 0) dX11_init_0 0 rfl ?_
  refine g_objI C kObj_RX11 kObjM kObjC T0.1 ⟨Nat.le_of_ble_eq_true rfl, Nat.le_of_ble_eq_true rfl⟩ dX11_init_1 ?_
  refine g_aload_n C (f := 0) dX11_init_4 0 rfl ?_
  refine g_sipush C (n := 2000) dX11_init_5 (by decide) ?_
  obtain ⟨c1, h⟩ := ck_e h
  refine g_newa C (atype := .byte) 21 2000 kac_byte hE (Or.inr (Or.inl ⟨rfl, rfl⟩)) c1.1 c1.2 rfl (by omega) ⟨by show _ ≤ (812 : Nat); omega, by show _ ≤ 2000 * 812; omega⟩ (by decide) dX11_init_8 ?_
  have F2 : 0 < x0 + 1 ∧ ty_ (x0 + 1) = 21 ∧ ln_ (x0 + 1) = 2000 := ⟨by omega, c1⟩
  refine g_sz (sz' := x0 + 2) (by omega) ?_
  obtain ⟨v3, ev3, h⟩ := lt_e h
  refine g_putF C hin (k := 0) (kd := 2) okX11 (by decide) kf_RX11_9 dX11_init_10 ⟨T0.1, by omega⟩ T0.2.1 rfl rfl nvA hE ?_
  refine g_setv C ev3 ?_
  refine g_aload_n C (f := 0) dX11_init_13 0 rfl ?_
  refine g_iconst C (n := (-1)) dX11_init_14 (by decide) ?_
  obtain ⟨v4, ev4, h⟩ := lt_e h
  refine g_putf C (k := 2) (kd := 0) okX11 (by decide) kf_RX11_13 dX11_init_15 ⟨T0.1, by omega⟩ T0.2.1 rfl rfl nvI (Or.inr (hE _)) v4 ev4 ?_
  refine g_aload_n C (f := 0) dX11_init_18 0 rfl ?_
  obtain ⟨c5, h⟩ := ck_e h
  refine g_new C okX3 kcl_RX11_17 kins_X3 kin_X3_init hE c5.1 gtX3 (by omega) ⟨by show _ ≤ (812 : Nat); omega, by show _ ≤ 2000 * 812; omega⟩ (by decide) dX11_init_19 ?_
  have F6 : 0 < x0 + 2 ∧ ty_ (x0 + 2) = 3 ∧ ln_ (x0 + 2) = 0 := ⟨by omega, c5⟩
  refine g_sz (sz' := x0 + 3) (by omega) ?_
  refine g_dup C (Nat.ne_of_beq_eq_false rfl) dX11_init_22 ?_
  obtain ⟨q7, eq7, h⟩ := bd_e h
  refine g_sz (sz' := (x0 + 2) + 1) (by omega) ?_
  refine g_callITN C (K := 8) hA hS (cX3_init_ok l hE F6 eq7) ⟨F6.1, by omega⟩ km_RX11_19 kim_X3_init kin_X3_init kco_X3_init ⟨by decide +kernel, by decide +kernel, by decide +kernel⟩ rfl (by decide) rfl rfl (by omega) ⟨by show _ ≤ (812 : Nat); omega, by show _ ≤ 2000 * 812; omega⟩ (Nat.le_of_ble_eq_true rfl) dX11_init_23 ?_
  refine g_sz (sz' := x0 + 11) (by omega) ?_
  obtain ⟨v8, ev8, h⟩ := lt_e h
  refine g_putF C hin (k := 3) (kd := 2) okX11 (by decide) kf_RX11_20 dX11_init_26 ⟨T0.1, by omega⟩ T0.2.1 rfl rfl nvR hE ?_
  refine g_setv C ev8 ?_
  refine g_aload_n C (f := 0) dX11_init_29 0 rfl ?_
  obtain ⟨c9, h⟩ := ck_e h
  refine g_new C okX5 kcl_RX11_24 kins_X5 kin_X5_init hE c9.1 gtX5 (by omega) ⟨by show _ ≤ (812 : Nat); omega, by show _ ≤ 2000 * 812; omega⟩ (by decide) dX11_init_30 ?_
  have F10 : 0 < x0 + 11 ∧ ty_ (x0 + 11) = 5 ∧ ln_ (x0 + 11) = 0 := ⟨by omega, c9⟩
  refine g_sz (sz' := x0 + 12) (by omega) ?_
  refine g_dup C (Nat.ne_of_beq_eq_false rfl) dX11_init_33 ?_
  obtain ⟨q11, eq11, h⟩ := bd_e h
  refine g_sz (sz' := (x0 + 11) + 1) (by omega) ?_
  refine g_callI C (K := 63) hA (cX5_init_ok l hE F10 eq11) ⟨F10.1, by omega⟩ km_RX11_26 kim_X5_init kin_X5_init kco_X5_init ⟨by decide +kernel, by decide +kernel, by decide +kernel⟩ rfl (by decide) rfl rfl (by omega) ⟨by show _ ≤ (812 : Nat); omega, by show _ ≤ 2000 * 812; omega⟩ (Nat.le_of_ble_eq_true rfl) dX11_init_34 ?_
  refine g_sz (sz' := x0 + 75) (by omega) ?_
  obtain ⟨v12, ev12, h⟩ := lt_e h
  refine g_putf C (k := 4) (kd := 2) okX11 (by decide) kf_RX11_27 dX11_init_37 ⟨T0.1, by omega⟩ T0.2.1 rfl rfl nvR (Or.inr (hE _)) v12 ev12 ?_
  refine g_aload_n C (f := 0) dX11_init_40 0 rfl ?_
  obtain ⟨c13, h⟩ := ck_e h
  refine g_new C okX5 kcl_RX11_24 kins_X5 kin_X5_init hE c13.1 gtX5 (by omega) ⟨by show _ ≤ (812 : Nat); omega, by show _ ≤ 2000 * 812; omega⟩ (by decide) dX11_init_41 ?_
  have F14 : 0 < x0 + 75 ∧ ty_ (x0 + 75) = 5 ∧ ln_ (x0 + 75) = 0 := ⟨by omega, c13⟩
  refine g_sz (sz' := x0 + 76) (by omega) ?_
  refine g_dup C (Nat.ne_of_beq_eq_false rfl) dX11_init_44 ?_
  obtain ⟨q15, eq15, h⟩ := bd_e h
  refine g_sz (sz' := (x0 + 75) + 1) (by omega) ?_
  refine g_callI C (K := 63) hA (cX5_init_ok l hE F14 eq15) ⟨F14.1, by omega⟩ km_RX11_26 kim_X5_init kin_X5_init kco_X5_init ⟨by decide +kernel, by decide +kernel, by decide +kernel⟩ rfl (by decide) rfl rfl (by omega) ⟨by show _ ≤ (812 : Nat); omega, by show _ ≤ 2000 * 812; omega⟩ (Nat.le_of_ble_eq_true rfl) dX11_init_45 ?_
  refine g_sz (sz' := x0 + 139) (by omega) ?_
  obtain ⟨v16, ev16, h⟩ := lt_e h
  refine g_putf C (k := 5) (kd := 2) okX11 (by decide) kf_RX11_31 dX11_init_48 ⟨T0.1, by omega⟩ T0.2.1 rfl rfl nvR (Or.inr (hE _)) v16 ev16 ?_
  refine g_aload_n C (f := 0) dX11_init_51 0 rfl ?_
  obtain ⟨c17, h⟩ := ck_e h
  refine g_new C okX7 kcl_RX11_34 kins_X7 kin_X7_init hE c17.1 gtX7 (by omega) ⟨by show _ ≤ (812 : Nat); omega, by show _ ≤ 2000 * 812; omega⟩ (by decide) dX11_init_52 ?_
  have F18 : 0 < x0 + 139 ∧ ty_ (x0 + 139) = 7 ∧ ln_ (x0 + 139) = 0 := ⟨by omega, c17⟩
  refine g_sz (sz' := x0 + 140) (by omega) ?_
  refine g_dup C (Nat.ne_of_beq_eq_false rfl) dX11_init_55 ?_
  obtain ⟨q19, eq19, h⟩ := bd_e h
  refine g_sz (sz' := (x0 + 139) + 1) (by omega) ?_
  refine g_callIN C (K := 1) hA (cX7_init_ok l hE F18 eq19) ⟨F18.1, by omega⟩ km_RX11_36 kim_X7_init kin_X7_init kco_X7_init ⟨by decide +kernel, by decide +kernel, by decide +kernel⟩ rfl (by decide) rfl rfl (by omega) ⟨by show _ ≤ (812 : Nat); omega, by show _ ≤ 2000 * 812; omega⟩ (Nat.le_of_ble_eq_true rfl) dX11_init_56 ?_
  refine g_sz (sz' := x0 + 141) (by omega) ?_
  obtain ⟨v20, ev20, h⟩ := lt_e h
  refine g_putF C hin (k := 6) (kd := 2) okX11 (by decide) kf_RX11_37 dX11_init_59 ⟨T0.1, by omega⟩ T0.2.1 rfl rfl nvR hE ?_
  refine g_setv C ev20 ?_
  refine g_sub [0] rfl rfl ?_
  exact tX11_init_62 C hr hlk hin hA hS hE T0 h
