theorem dX9_init_0 : decode cX9_init 0 = .ok (.aload_n 0, 1) := by decide +kernel
theorem dX9_init_1 : decode cX9_init 1 = .ok (.invokespecial 3, 3) := by decide +kernel
theorem dX9_init_4 : decode cX9_init 4 = .ok (.aload_n 0, 1) := by decide +kernel
theorem dX9_init_5 : decode cX9_init 5 = .ok (.bipush 17, 2) := by decide +kernel
theorem dX9_init_7 : decode cX9_init 7 = .ok (.newarray .long, 2) := by decide +kernel
theorem dX9_init_9 : decode cX9_init 9 = .ok (.putfield 11, 3) := by decide +kernel
theorem dX9_init_12 : decode cX9_init 12 = .ok (.aload_n 0, 1) := by decide +kernel
theorem dX9_init_13 : decode cX9_init 13 = .ok (.sipush 402, 3) := by decide +kernel
theorem dX9_init_16 : decode cX9_init 16 = .ok (.newarray .int, 2) := by decide +kernel
theorem dX9_init_18 : decode cX9_init 18 = .ok (.putfield 15, 3) := by decide +kernel
theorem dX9_init_21 : decode cX9_init 21 = .ok (.aload_n 0, 1) := by decide +kernel
theorem dX9_init_22 : decode cX9_init 22 = .ok (.sipush 402, 3) := by decide +kernel
theorem dX9_init_25 : decode cX9_init 25 = .ok (.newarray .int, 2) := by decide +kernel
theorem dX9_init_27 : decode cX9_init 27 = .ok (.putfield 19, 3) := by decide +kernel
theorem dX9_init_30 : decode cX9_init 30 = .ok (.aload_n 0, 1) := by decide +kernel
theorem dX9_init_31 : decode cX9_init 31 = .ok (.sipush 402, 3) := by decide +kernel
theorem dX9_init_34 : decode cX9_init 34 = .ok (.newarray .long, 2) := by decide +kernel
theorem dX9_init_36 : decode cX9_init 36 = .ok (.putfield 22, 3) := by decide +kernel
theorem dX9_init_39 : decode cX9_init 39 = .ok (.iconst 0, 1) := by decide +kernel
theorem dX9_init_40 : decode cX9_init 40 = .ok (.istore_n 1, 1) := by decide +kernel
theorem dX9_init_41 : decode cX9_init 41 = .ok (.iconst 0, 1) := by decide +kernel
theorem dX9_init_42 : decode cX9_init 42 = .ok (.istore_n 2, 1) := by decide +kernel
theorem dX9_init_43 : decode cX9_init 43 = .ok (.iload_n 2, 1) := by decide +kernel
theorem dX9_init_44 : decode cX9_init 44 = .ok (.ldc 25, 2) := by decide +kernel
theorem dX9_init_46 : decode cX9_init 46 = .ok (.invokevirtual 27, 3) := by decide +kernel
theorem dX9_init_49 : decode cX9_init 49 = .ok (.if_icmp .ge 50, 3) := by decide +kernel
theorem dX9_init_52 : decode cX9_init 52 = .ok (.iload_n 1, 1) := by decide +kernel
theorem dX9_init_53 : decode cX9_init 53 = .ok (.bipush 17, 2) := by decide +kernel
theorem dX9_init_55 : decode cX9_init 55 = .ok (.if_icmp .ge 44, 3) := by decide +kernel
theorem dX9_init_58 : decode cX9_init 58 = .ok (.ldc 25, 2) := by decide +kernel
theorem dX9_init_60 : decode cX9_init 60 = .ok (.iload_n 2, 1) := by decide +kernel
theorem dX9_init_61 : decode cX9_init 61 = .ok (.invokevirtual 33, 3) := by decide +kernel
theorem dX9_init_64 : decode cX9_init 64 = .ok (.istore_n 3, 1) := by decide +kernel
theorem dX9_init_65 : decode cX9_init 65 = .ok (.iload_n 3, 1) := by decide +kernel
theorem dX9_init_66 : decode cX9_init 66 = .ok (.bipush 32, 2) := by decide +kernel
theorem dX9_init_68 : decode cX9_init 68 = .ok (.if_icmp .ne 9, 3) := by decide +kernel
theorem dX9_init_71 : decode cX9_init 71 = .ok (.iinc 1 1, 3) := by decide +kernel
theorem dX9_init_74 : decode cX9_init 74 = .ok (.goto 19, 3) := by decide +kernel
theorem dX9_init_77 : decode cX9_init 77 = .ok (.aload_n 0, 1) := by decide +kernel
theorem dX9_init_78 : decode cX9_init 78 = .ok (.getfield 11, 3) := by decide +kernel
theorem dX9_init_81 : decode cX9_init 81 = .ok (.iload_n 1, 1) := by decide +kernel
theorem dX9_init_82 : decode cX9_init 82 = .ok (.aload_n 0, 1) := by decide +kernel
theorem dX9_init_83 : decode cX9_init 83 = .ok (.getfield 11, 3) := by decide +kernel
theorem dX9_init_86 : decode cX9_init 86 = .ok (.iload_n 1, 1) := by decide +kernel
theorem dX9_init_87 : decode cX9_init 87 = .ok (.laload, 1) := by decide +kernel
theorem dX9_init_88 : decode cX9_init 88 = .ok (.iload_n 3, 1) := by decide +kernel
theorem dX9_init_89 : decode cX9_init 89 = .ok (.invokestatic 37, 3) := by decide +kernel
theorem dX9_init_92 : decode cX9_init 92 = .ok (.lastore, 1) := by decide +kernel
theorem dX9_init_93 : decode cX9_init 93 = .ok (.iinc 2 1, 3) := by decide +kernel
theorem dX9_init_96 : decode cX9_init 96 = .ok (.goto (-53), 3) := by decide +kernel
theorem dX9_init_99 : decode cX9_init 99 = .ok (.return_, 1) := by decide +kernel
noncomputable def fX9_init_43 : Nat → Int → Int → Int → Int → V_ → Option (Int × V_)
  | 0, _, _, _, _, _ => none
  | n + 1, x0, x1, x2, z, v =>
    ck_ (x0 + 1 ≤ z ∧ z ≤ x0 + 1 + 4) (
    if 67 ≤ x2 then (
      ck_ (z = x0 + 1 + 4) (
      some (0, v)))
    else (
      if 17 ≤ x1 then (
        ck_ (z = x0 + 1 + 4) (
        some (0, v)))
      else (
        ck_ (x0 + 1 ≤ z ∧ z ≤ x0 + 1 + 4) (
        ck_ (0 ≤ x2 ∧ x2 < 67) (
        lt_ (sb_ x2) fun y20 =>
        if y20 = 32 then (
          lt_ (wr_ (x1 + 1)) fun y32 =>
          lt_ (wr_ (x2 + 1)) fun y33 =>
          fX9_init_43 n x0 y32 y33 z v)
        else (
          ck_ (v x0 0 = x0 + 1 ∧ (ty_ (x0 + 1) = 22 ∧ ln_ (x0 + 1) = 17) ∧ x0 + 1 < z) (
          ck_ (v x0 0 = x0 + 1 ∧ (ty_ (x0 + 1) = 22 ∧ ln_ (x0 + 1) = 17) ∧ x0 + 1 < z) (
          ck_ (0 ≤ x1 ∧ x1 < 17) (
          ck_ (x0 + 1 ≤ z ∧ z ≤ x0 + 1 + 4) (
          bd_ (fX9_withLetter (v (x0 + 1) x1) y20 v) fun q27 =>
          ck_ (0 ≤ x1 ∧ x1 < 17) (
          lt_ (up_ q27.2 (x0 + 1) x1 q27.1) fun v30 =>
          lt_ (wr_ (x2 + 1)) fun y31 =>
          fX9_init_43 n x0 x1 y31 z v30)))))))))))
noncomputable def fX9_init (x0 : Int) (v : V_) : Option (Int × V_) :=
  ck_ (ty_ (x0 + 1) = 22 ∧ ln_ (x0 + 1) = 17) (
  lt_ (up_ (zr_ v (x0 + 1)) x0 0 (x0 + 1)) fun v3 =>
  ck_ (ty_ (x0 + 2) = 20 ∧ ln_ (x0 + 2) = 402) (
  lt_ (up_ (zr_ v3 (x0 + 2)) x0 1 (x0 + 2)) fun v6 =>
  ck_ (ty_ (x0 + 3) = 20 ∧ ln_ (x0 + 3) = 402) (
  lt_ (up_ (zr_ v6 (x0 + 3)) x0 2 (x0 + 3)) fun v9 =>
  ck_ (ty_ (x0 + 4) = 22 ∧ ln_ (x0 + 4) = 402) (
  lt_ (up_ (zr_ v9 (x0 + 4)) x0 3 (x0 + 4)) fun v12 =>
  fX9_init_43 fu_ x0 0 0 (x0 + 5) v12))))
section
variable {E : En_} {p : Program} {l : Launch} {e : Env} {s : State} {m : MethodId} {args : Array Value} {below : List Frame} {meth : Method} {c : Code} {aK aV : Nat}
theorem tX9_init_43 (C : MC_ E p s m c cX9_init 4 RX9) (hr : meth.sig.returnType = none) (hlk : meth.locks = false) (hin : meth.name = "<init>") (hA : KA_ s) (hS : KS_ E aK aV s) (hE : ∀ a, ¬ E.2.2.2.2.2 a) {x0 : Int} (T0 : 0 < x0 ∧ ty_ x0 = 9 ∧ ln_ x0 = 0) {out : Int × V_} : ∀ (n : Nat) (x1 x2 z : Int) (v : V_), x0 + 1 ≤ z → fX9_init_43 n x0 x1 x2 z v = some out → G_ E p l e (rmc_ 4 85 4) s m args below meth c 4 (x0 + 1) (Q_ E below args s (x0 + 1) (x0 + 1 + (4 : Nat)) 9 out.1 out.2) 43 [(0, (2, x0)), (1, (0, x1)), (2, (0, x2))] [] v z := by
  intro n
  induction n with
  | zero =>
    intro x1 x2 z v hz h
    cases h
  | succ n H =>
    intro x1 x2 z v hz h
    rw [fX9_init_43] at h
    refine g_iload_n C (f := 2) dX9_init_43 2 rfl ?_
    refine g_ldcS C hS dX9_init_44 ?_
    obtain ⟨c13, h⟩ := ck_e h
    refine g_cSt C hA hS [] (c_Len l) kjm27 cv_Len rfl (by decide) rfl rfl (by omega) ⟨by show _ ≤ (4 : Nat); omega, by show _ ≤ 2000 * 4; omega⟩ (Nat.le_of_ble_eq_true rfl) dX9_init_46 ?_
    refine g_icmp_ge C 99 dX9_init_49 rfl (fun c14 => ?_) (fun c14 => ?_)
    · replace h := if_t h c14
      obtain ⟨c15, h⟩ := ck_e h
      refine g_sz (sz' := x0 + 1 + (4 : Nat)) (by omega) ?_
      cases h
      exact g_vret C dX9_init_99 hr hlk
    · replace h := if_f h c14
      refine g_iload_n C (f := 1) dX9_init_52 1 rfl ?_
      refine g_bipush C (n := 17) dX9_init_53 (by decide) ?_
      refine g_icmp_ge C 99 dX9_init_55 rfl (fun c16 => ?_) (fun c16 => ?_)
      · replace h := if_t h c16
        obtain ⟨c17, h⟩ := ck_e h
        refine g_sz (sz' := x0 + 1 + (4 : Nat)) (by omega) ?_
        cases h
        exact g_vret C dX9_init_99 hr hlk
      · replace h := if_f h c16
        refine g_ldcS C hS dX9_init_58 ?_
        refine g_iload_n C (f := 2) dX9_init_60 2 rfl ?_
        obtain ⟨c18, h⟩ := ck_e h
        obtain ⟨c19, h⟩ := ck_e h
        refine g_cSt C hA hS [(0, x2)] (c_Chr l c19) kjm33 cv_Chr rfl (by decide) rfl rfl (by omega) ⟨by show _ ≤ (4 : Nat); omega, by show _ ≤ 2000 * 4; omega⟩ (Nat.le_of_ble_eq_true rfl) dX9_init_61 ?_
        obtain ⟨y20, ey20, h⟩ := lt_e h
        refine g_set C ey20 ?_
        refine g_istore_n C (f := 3) (ls' := [(3, (0, y20)), (0, (2, x0)), (1, (0, x1)), (2, (0, x2))]) dX9_init_64 (by decide) rfl ?_
        refine g_iload_n C (f := 3) dX9_init_65 0 rfl ?_
        refine g_bipush C (n := 32) dX9_init_66 (by decide) ?_
        refine g_icmp_ne C 77 dX9_init_68 rfl (fun c21 => ?_) (fun c21 => ?_)
        · replace h := if_f h c21
          refine g_aload_n C (f := 0) dX9_init_77 1 rfl ?_
          obtain ⟨c22, h⟩ := ck_e h
          refine g_getf C (k := 0) (kd := 2) okX9 (by decide) kf_RX9_11 dX9_init_78 ⟨T0.1, by omega⟩ T0.2.1 rfl ?_
          refine g_set C c22.1.symm ?_
          have F23 : 0 < x0 + 1 ∧ ty_ (x0 + 1) = 22 ∧ ln_ (x0 + 1) = 17 := ⟨by omega, c22.2.1⟩
          have _ := c22.2.2
          refine g_iload_n C (f := 1) dX9_init_81 2 rfl ?_
          refine g_aload_n C (f := 0) dX9_init_82 1 rfl ?_
          obtain ⟨c24, h⟩ := ck_e h
          refine g_getf C (k := 0) (kd := 2) okX9 (by decide) kf_RX9_11 dX9_init_83 ⟨T0.1, by omega⟩ T0.2.1 rfl ?_
          refine g_set C c24.1.symm ?_
          have F25 : 0 < x0 + 1 ∧ ty_ (x0 + 1) = 22 ∧ ln_ (x0 + 1) = 17 := ⟨by omega, c24.2.1⟩
          have _ := c24.2.2
          refine g_iload_n C (f := 1) dX9_init_86 2 rfl ?_
          obtain ⟨c26, h⟩ := ck_e h
          refine g_lald C 17 dX9_init_87 ⟨F25.1, by omega⟩ F25.2.1 F25.2.2 c26 ?_
          refine g_iload_n C (f := 3) dX9_init_88 0 rfl ?_
          obtain ⟨c28, h⟩ := ck_e h
          obtain ⟨q27, eq27, h⟩ := bd_e h
          refine g_cSk C [(1, v (x0 + 1) x1), (0, y20)] (cX9_withLetter_ok l (cl_none hE) eq27) km_RX9_37 cs_X9_withLetter rfl (by decide) rfl rfl (by omega) ⟨by show _ ≤ (4 : Nat); omega, by show _ ≤ 2000 * 4; omega⟩ (Nat.le_of_ble_eq_true rfl) dX9_init_89 ?_
          obtain ⟨c29, h⟩ := ck_e h
          obtain ⟨v30, ev30, h⟩ := lt_e h
          refine g_last C 17 dX9_init_92 ⟨F23.1, by omega⟩ F23.2.1 F23.2.2 c29 v30 ev30 ?_
          obtain ⟨y31, ey31, h⟩ := lt_e h
          refine g_iincx C (ls' := [(2, (0, y31)), (3, (0, y20)), (0, (2, x0)), (1, (0, x1))]) ey31 dX9_init_93 3 rfl (by decide) (by decide) rfl ?_
          refine g_goto C 43 dX9_init_96 rfl ?_
          refine g_sub [2, 3, 0] rfl rfl ?_
          exact H _ _ _ _ (by omega) h
        · replace h := if_t h c21
          obtain ⟨y32, ey32, h⟩ := lt_e h
          refine g_iincx C (ls' := [(1, (0, y32)), (3, (0, y20)), (0, (2, x0)), (2, (0, x2))]) ey32 dX9_init_71 2 rfl (by decide) (by decide) rfl ?_
          refine g_goto C 93 dX9_init_74 rfl ?_
          obtain ⟨y33, ey33, h⟩ := lt_e h
          refine g_iincx C (ls' := [(2, (0, y33)), (1, (0, y32)), (3, (0, y20)), (0, (2, x0))]) ey33 dX9_init_93 3 rfl (by decide) (by decide) rfl ?_
          refine g_goto C 43 dX9_init_96 rfl ?_
          refine g_sub [3, 1, 0] rfl rfl ?_
          exact H _ _ _ _ (by omega) h
end
set_option maxHeartbeats 20000000 in
theorem cX9_init_ok (l : Launch) {E : En_} {aK aV : Nat} (hE : ∀ a, ¬ E.2.2.2.2.2 a) {x0 : Int} {v : V_} {out : Int × V_} (T0 : 0 < x0 ∧ ty_ x0 = 9 ∧ ln_ x0 = 0) (h : fX9_init x0 v = some out) : Met l yX9_init [.code yX9_init cX9_init 4 none] (rmc_ 4 85 4) (PcT_ E (x0 + 1) v aK aV [(2, x0)]) (Qc_ E (x0 + 1 + (4 : Nat)) 9 out.1 out.2) 4 (2000 * 4) (fun q => E.1 < q) := by
  refine met_GT RX9 (by decide +kernel) rfl (Nat.le_of_ble_eq_true rfl) ?_
  intro p e s m args below meth c C hA hS hr hlk hin
  rw [fX9_init] at h
  refine g_aload_n C (f := 0) dX9_init_0 0 rfl ?_
  refine g_objI C kObj_RX9 kObjM kObjC T0.1 ⟨Nat.le_of_ble_eq_true rfl, Nat.le_of_ble_eq_true rfl⟩ dX9_init_1 ?_
  refine g_aload_n C (f := 0) dX9_init_4 0 rfl ?_
  refine g_bipush C (n := 17) dX9_init_5 (by decide) ?_
  obtain ⟨c1, h⟩ := ck_e h
  refine g_newa C (atype := .long) 22 17 kac_long hE (Or.inr (Or.inr (Or.inl ⟨rfl, rfl⟩))) c1.1 c1.2 rfl (by omega) ⟨by show _ ≤ (4 : Nat); omega, by show _ ≤ 2000 * 4; omega⟩ (by decide) dX9_init_7 ?_
  have F2 : 0 < x0 + 1 ∧ ty_ (x0 + 1) = 22 ∧ ln_ (x0 + 1) = 17 := ⟨by omega, c1⟩
  refine g_sz (sz' := x0 + 2) (by omega) ?_
  obtain ⟨v3, ev3, h⟩ := lt_e h
  refine g_putF C hin (k := 0) (kd := 2) okX9 (by decide) kf_RX9_11 dX9_init_9 ⟨T0.1, by omega⟩ T0.2.1 rfl rfl nvA hE ?_
  refine g_setv C ev3 ?_
  refine g_aload_n C (f := 0) dX9_init_12 0 rfl ?_
  refine g_sipush C (n := 402) dX9_init_13 (by decide) ?_
  obtain ⟨c4, h⟩ := ck_e h
  refine g_newa C (atype := .int) 20 402 kac_int hE (Or.inl ⟨rfl, rfl⟩) c4.1 c4.2 rfl (by omega) ⟨by show _ ≤ (4 : Nat); omega, by show _ ≤ 2000 * 4; omega⟩ (by decide) dX9_init_16 ?_
  have F5 : 0 < x0 + 2 ∧ ty_ (x0 + 2) = 20 ∧ ln_ (x0 + 2) = 402 := ⟨by omega, c4⟩
  refine g_sz (sz' := x0 + 3) (by omega) ?_
  obtain ⟨v6, ev6, h⟩ := lt_e h
  refine g_putF C hin (k := 1) (kd := 2) okX9 (by decide) kf_RX9_15 dX9_init_18 ⟨T0.1, by omega⟩ T0.2.1 rfl rfl nvA hE ?_
  refine g_setv C ev6 ?_
  refine g_aload_n C (f := 0) dX9_init_21 0 rfl ?_
  refine g_sipush C (n := 402) dX9_init_22 (by decide) ?_
  obtain ⟨c7, h⟩ := ck_e h
  refine g_newa C (atype := .int) 20 402 kac_int hE (Or.inl ⟨rfl, rfl⟩) c7.1 c7.2 rfl (by omega) ⟨by show _ ≤ (4 : Nat); omega, by show _ ≤ 2000 * 4; omega⟩ (by decide) dX9_init_25 ?_
  have F8 : 0 < x0 + 3 ∧ ty_ (x0 + 3) = 20 ∧ ln_ (x0 + 3) = 402 := ⟨by omega, c7⟩
  refine g_sz (sz' := x0 + 4) (by omega) ?_
  obtain ⟨v9, ev9, h⟩ := lt_e h
  refine g_putF C hin (k := 2) (kd := 2) okX9 (by decide) kf_RX9_19 dX9_init_27 ⟨T0.1, by omega⟩ T0.2.1 rfl rfl nvA hE ?_
  refine g_setv C ev9 ?_
  refine g_aload_n C (f := 0) dX9_init_30 0 rfl ?_
  refine g_sipush C (n := 402) dX9_init_31 (by decide) ?_
  obtain ⟨c10, h⟩ := ck_e h
  refine g_newa C (atype := .long) 22 402 kac_long hE (Or.inr (Or.inr (Or.inl ⟨rfl, rfl⟩))) c10.1 c10.2 rfl (by omega) ⟨by show _ ≤ (4 : Nat); omega, by show _ ≤ 2000 * 4; omega⟩ (by decide) dX9_init_34 ?_
  have F11 : 0 < x0 + 4 ∧ ty_ (x0 + 4) = 22 ∧ ln_ (x0 + 4) = 402 := ⟨by omega, c10⟩
  refine g_sz (sz' := x0 + 5) (by omega) ?_
  obtain ⟨v12, ev12, h⟩ := lt_e h
  refine g_putF C hin (k := 3) (kd := 2) okX9 (by decide) kf_RX9_22 dX9_init_36 ⟨T0.1, by omega⟩ T0.2.1 rfl rfl nvA hE ?_
  refine g_setv C ev12 ?_
  refine g_iconst C (n := 0) dX9_init_39 (by decide) ?_
  refine g_istore_n C (f := 1) (ls' := [(1, (0, 0)), (0, (2, x0))]) dX9_init_40 (by decide) rfl ?_
  refine g_iconst C (n := 0) dX9_init_41 (by decide) ?_
  refine g_istore_n C (f := 2) (ls' := [(2, (0, 0)), (1, (0, 0)), (0, (2, x0))]) dX9_init_42 (by decide) rfl ?_
  refine g_sub [2, 1, 0] rfl rfl ?_
  exact tX9_init_43 C hr hlk hin hA hS hE T0 _ _ _ _ _ (by omega) h
theorem dX3_init_0 : decode cX3_init 0 = .ok (.aload_n 0, 1) := by decide +kernel
theorem dX3_init_1 : decode cX3_init 1 = .ok (.invokespecial 3, 3) := by decide +kernel
theorem dX3_init_4 : decode cX3_init 4 = .ok (.aload_n 0, 1) := by decide +kernel
theorem dX3_init_5 : decode cX3_init 5 = .ok (.new 9, 3) := by decide +kernel
theorem dX3_init_8 : decode cX3_init 8 = .ok (.dup, 1) := by decide +kernel
theorem dX3_init_9 : decode cX3_init 9 = .ok (.invokespecial 11, 3) := by decide +kernel
theorem dX3_init_12 : decode cX3_init 12 = .ok (.putfield 12, 3) := by decide +kernel
theorem dX3_init_15 : decode cX3_init 15 = .ok (.aload_n 0, 1) := by decide +kernel
theorem dX3_init_16 : decode cX3_init 16 = .ok (.bipush 8, 2) := by decide +kernel
theorem dX3_init_18 : decode cX3_init 18 = .ok (.newarray .long, 2) := by decide +kernel
theorem dX3_init_20 : decode cX3_init 20 = .ok (.putfield 18, 3) := by decide +kernel
theorem dX3_init_23 : decode cX3_init 23 = .ok (.aload_n 0, 1) := by decide +kernel
theorem dX3_init_24 : decode cX3_init 24 = .ok (.bipush 16, 2) := by decide +kernel
theorem dX3_init_26 : decode cX3_init 26 = .ok (.newarray .long, 2) := by decide +kernel
theorem dX3_init_28 : decode cX3_init 28 = .ok (.putfield 22, 3) := by decide +kernel
theorem dX3_init_31 : decode cX3_init 31 = .ok (.aload_n 0, 1) := by decide +kernel
theorem dX3_init_32 : decode cX3_init 32 = .ok (.bipush 16, 2) := by decide +kernel
theorem dX3_init_34 : decode cX3_init 34 = .ok (.newarray .int, 2) := by decide +kernel
theorem dX3_init_36 : decode cX3_init 36 = .ok (.putfield 25, 3) := by decide +kernel
theorem dX3_init_39 : decode cX3_init 39 = .ok (.return_, 1) := by decide +kernel
noncomputable def fX3_init (x0 : Int) (v : V_) : Option (Int × V_) :=
  ck_ (ty_ (x0 + 1) = 9 ∧ ln_ (x0 + 1) = 0) (
  bd_ (fX9_init (x0 + 1) (zr_ v (x0 + 1))) fun q3 =>
  lt_ (up_ q3.2 x0 0 (x0 + 1)) fun v4 =>
  ck_ (ty_ (x0 + 6) = 22 ∧ ln_ (x0 + 6) = 8) (
  lt_ (up_ (zr_ v4 (x0 + 6)) x0 1 (x0 + 6)) fun v7 =>
  ck_ (ty_ (x0 + 7) = 22 ∧ ln_ (x0 + 7) = 16) (
  lt_ (up_ (zr_ v7 (x0 + 7)) x0 2 (x0 + 7)) fun v10 =>
  ck_ (ty_ (x0 + 8) = 20 ∧ ln_ (x0 + 8) = 16) (
  lt_ (up_ (zr_ v10 (x0 + 8)) x0 3 (x0 + 8)) fun v13 =>
  some (0, v13)))))
set_option maxHeartbeats 20000000 in
theorem cX3_init_ok (l : Launch) {E : En_} {aK aV : Nat} (hE : ∀ a, ¬ E.2.2.2.2.2 a) {x0 : Int} {v : V_} {out : Int × V_} (T0 : 0 < x0 ∧ ty_ x0 = 3 ∧ ln_ x0 = 0) (h : fX3_init x0 v = some out) : Met l yX3_init [.code yX3_init cX3_init 1 none] (rmc_ 5 108 8) (PcT_ E (x0 + 1) v aK aV [(2, x0)]) (Qc_ E (x0 + 1 + (8 : Nat)) 9 out.1 out.2) 8 (2000 * 8) (fun q => E.1 < q) := by
  refine met_GT RX3 (by decide +kernel) rfl (Nat.le_of_ble_eq_true rfl) ?_
  intro p e s m args below meth c C hA hS hr hlk hin
  rw [fX3_init] at h
  refine g_aload_n C (f := 0) dX3_init_0 0 rfl ?_
  refine g_objI C kObj_RX3 kObjM kObjC T0.1 ⟨Nat.le_of_ble_eq_true rfl, Nat.le_of_ble_eq_true rfl⟩ dX3_init_1 ?_
  refine g_aload_n C (f := 0) dX3_init_4 0 rfl ?_
  obtain ⟨c1, h⟩ := ck_e h
  refine g_new C okX9 kcl_RX3_9 kins_X9 kin_X9_init hE c1.1 gtX9 (by omega) ⟨by show _ ≤ (8 : Nat); omega, by show _ ≤ 2000 * 8; omega⟩ (by decide) dX3_init_5 ?_
  have F2 : 0 < x0 + 1 ∧ ty_ (x0 + 1) = 9 ∧ ln_ (x0 + 1) = 0 := ⟨by omega, c1⟩
  refine g_sz (sz' := x0 + 2) (by omega) ?_
  refine g_dup C (Nat.ne_of_beq_eq_false rfl) dX3_init_8 ?_
  obtain ⟨q3, eq3, h⟩ := bd_e h
  refine g_sz (sz' := (x0 + 1) + 1) (by omega) ?_
  refine g_callIT C (K := 4) hA hS (cX9_init_ok l hE F2 eq3) ⟨F2.1, by omega⟩ km_RX3_11 kim_X9_init kin_X9_init kco_X9_init ⟨by decide +kernel, by decide +kernel, by decide +kernel⟩ rfl (by decide) rfl rfl (by omega) ⟨by show _ ≤ (8 : Nat); omega, by show _ ≤ 2000 * 8; omega⟩ (Nat.le_of_ble_eq_true rfl) dX3_init_9 ?_
  refine g_sz (sz' := x0 + 6) (by omega) ?_
  obtain ⟨v4, ev4, h⟩ := lt_e h
  refine g_putF C hin (k := 0) (kd := 2) okX3 (by decide) kf_RX3_12 dX3_init_12 ⟨T0.1, by omega⟩ T0.2.1 rfl rfl nvR hE ?_
  refine g_setv C ev4 ?_
  refine g_aload_n C (f := 0) dX3_init_15 0 rfl ?_
  refine g_bipush C (n := 8) dX3_init_16 (by decide) ?_
  obtain ⟨c5, h⟩ := ck_e h
  refine g_newa C (atype := .long) 22 8 kac_long hE (Or.inr (Or.inr (Or.inl ⟨rfl, rfl⟩))) c5.1 c5.2 rfl (by omega) ⟨by show _ ≤ (8 : Nat); omega, by show _ ≤ 2000 * 8; omega⟩ (by decide) dX3_init_18 ?_
  have F6 : 0 < x0 + 6 ∧ ty_ (x0 + 6) = 22 ∧ ln_ (x0 + 6) = 8 := ⟨by omega, c5⟩
  refine g_sz (sz' := x0 + 7) (by omega) ?_
  obtain ⟨v7, ev7, h⟩ := lt_e h
  refine g_putF C hin (k := 1) (kd := 2) okX3 (by decide) kf_RX3_18 dX3_init_20 ⟨T0.1, by omega⟩ T0.2.1 rfl rfl nvA hE ?_
  refine g_setv C ev7 ?_
  refine g_aload_n C (f := 0) dX3_init_23 0 rfl ?_
  refine g_bipush C (n := 16) dX3_init_24 (by decide) ?_
  obtain ⟨c8, h⟩ := ck_e h
  refine g_newa C (atype := .long) 22 16 kac_long hE (Or.inr (Or.inr (Or.inl ⟨rfl, rfl⟩))) c8.1 c8.2 rfl (by omega) ⟨by show _ ≤ (8 : Nat); omega, by show _ ≤ 2000 * 8; omega⟩ (by decide) dX3_init_26 ?_
  have F9 : 0 < x0 + 7 ∧ ty_ (x0 + 7) = 22 ∧ ln_ (x0 + 7) = 16 := ⟨by omega, c8⟩
  refine g_sz (sz' := x0 + 8) (by omega) ?_
  obtain ⟨v10, ev10, h⟩ := lt_e h
  refine g_putF C hin (k := 2) (kd := 2) okX3 (by decide) kf_RX3_22 dX3_init_28 ⟨T0.1, by omega⟩ T0.2.1 rfl rfl nvA hE ?_
  refine g_setv C ev10 ?_
  refine g_aload_n C (f := 0) dX3_init_31 0 rfl ?_
  refine g_bipush C (n := 16) dX3_init_32 (by decide) ?_
  obtain ⟨c11, h⟩ := ck_e h
  refine g_newa C (atype := .int) 20 16 kac_int hE (Or.inl ⟨rfl, rfl⟩) c11.1 c11.2 rfl (by omega) ⟨by show _ ≤ (8 : Nat); omega, by show _ ≤ 2000 * 8; omega⟩ (by decide) dX3_init_34 ?_
  have F12 : 0 < x0 + 8 ∧ ty_ (x0 + 8) = 20 ∧ ln_ (x0 + 8) = 16 := ⟨by omega, c11⟩
  refine g_sz (sz' := x0 + 9) (by omega) ?_
  obtain ⟨v13, ev13, h⟩ := lt_e h
  refine g_putF C hin (k := 3) (kd := 2) okX3 (by decide) kf_RX3_25 dX3_init_36 ⟨T0.1, by omega⟩ T0.2.1 rfl rfl nvA hE ?_
  refine g_setv C ev13 ?_
  refine g_sz (sz' := x0 + 1 + (8 : Nat)) (by omega) ?_
  cases h
  exact g_vret C dX3_init_39 hr hlk
