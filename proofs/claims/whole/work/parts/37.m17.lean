theorem dX11_units_0 : decode cX11_units 0 = .ok (.iload_n 1, 1) := by decide +kernel
theorem dX11_units_1 : decode cX11_units 1 = .ok (.invokestatic 110, 3) := by decide +kernel
theorem dX11_units_4 : decode cX11_units 4 = .ok (.ifCond .eq 24, 3) := by decide +kernel
theorem dX11_units_7 : decode cX11_units 7 = .ok (.iload_n 2, 1) := by decide +kernel
theorem dX11_units_8 : decode cX11_units 8 = .ok (.iconst 1, 1) := by decide +kernel
theorem dX11_units_9 : decode cX11_units 9 = .ok (.if_icmp .lt 19, 3) := by decide +kernel
theorem dX11_units_12 : decode cX11_units 12 = .ok (.iload_n 2, 1) := by decide +kernel
theorem dX11_units_13 : decode cX11_units 13 = .ok (.iconst 4, 1) := by decide +kernel
theorem dX11_units_14 : decode cX11_units 14 = .ok (.if_icmp .gt 14, 3) := by decide +kernel
theorem dX11_units_17 : decode cX11_units 17 = .ok (.iload_n 3, 1) := by decide +kernel
theorem dX11_units_18 : decode cX11_units 18 = .ok (.iconst 1, 1) := by decide +kernel
theorem dX11_units_19 : decode cX11_units 19 = .ok (.if_icmp .lt 9, 3) := by decide +kernel
theorem dX11_units_22 : decode cX11_units 22 = .ok (.iload_n 3, 1) := by decide +kernel
theorem dX11_units_23 : decode cX11_units 23 = .ok (.bipush 6, 2) := by decide +kernel
theorem dX11_units_25 : decode cX11_units 25 = .ok (.if_icmp .le 5, 3) := by decide +kernel
theorem dX11_units_28 : decode cX11_units 28 = .ok (.iconst 0, 1) := by decide +kernel
theorem dX11_units_29 : decode cX11_units 29 = .ok (.ireturn, 1) := by decide +kernel
theorem dX11_units_30 : decode cX11_units 30 = .ok (.aload_n 0, 1) := by decide +kernel
theorem dX11_units_31 : decode cX11_units 31 = .ok (.getfield 37, 3) := by decide +kernel
theorem dX11_units_34 : decode cX11_units 34 = .ok (.iload_n 1, 1) := by decide +kernel
theorem dX11_units_35 : decode cX11_units 35 = .ok (.invokevirtual 113, 3) := by decide +kernel
theorem dX11_units_38 : decode cX11_units 38 = .ok (.iload_n 2, 1) := by decide +kernel
theorem dX11_units_39 : decode cX11_units 39 = .ok (.if_icmp .ne 17, 3) := by decide +kernel
theorem dX11_units_42 : decode cX11_units 42 = .ok (.aload_n 0, 1) := by decide +kernel
theorem dX11_units_43 : decode cX11_units 43 = .ok (.getfield 37, 3) := by decide +kernel
theorem dX11_units_46 : decode cX11_units 46 = .ok (.iload_n 1, 1) := by decide +kernel
theorem dX11_units_47 : decode cX11_units 47 = .ok (.invokevirtual 116, 3) := by decide +kernel
theorem dX11_units_50 : decode cX11_units 50 = .ok (.iload_n 3, 1) := by decide +kernel
theorem dX11_units_51 : decode cX11_units 51 = .ok (.if_icmp .ne 5, 3) := by decide +kernel
theorem dX11_units_54 : decode cX11_units 54 = .ok (.iconst 0, 1) := by decide +kernel
theorem dX11_units_55 : decode cX11_units 55 = .ok (.ireturn, 1) := by decide +kernel
theorem dX11_units_56 : decode cX11_units 56 = .ok (.aload_n 0, 1) := by decide +kernel
theorem dX11_units_57 : decode cX11_units 57 = .ok (.getfield 44, 3) := by decide +kernel
theorem dX11_units_60 : decode cX11_units 60 = .ok (.aload_n 0, 1) := by decide +kernel
theorem dX11_units_61 : decode cX11_units 61 = .ok (.getfield 37, 3) := by decide +kernel
theorem dX11_units_64 : decode cX11_units 64 = .ok (.invokevirtual 164, 3) := by decide +kernel
theorem dX11_units_67 : decode cX11_units 67 = .ok (.aload_n 0, 1) := by decide +kernel
theorem dX11_units_68 : decode cX11_units 68 = .ok (.getfield 37, 3) := by decide +kernel
theorem dX11_units_71 : decode cX11_units 71 = .ok (.iload_n 1, 1) := by decide +kernel
theorem dX11_units_72 : decode cX11_units 72 = .ok (.iload_n 2, 1) := by decide +kernel
theorem dX11_units_73 : decode cX11_units 73 = .ok (.iload_n 3, 1) := by decide +kernel
theorem dX11_units_74 : decode cX11_units 74 = .ok (.invokevirtual 216, 3) := by decide +kernel
theorem dX11_units_77 : decode cX11_units 77 = .ok (.aload_n 0, 1) := by decide +kernel
theorem dX11_units_78 : decode cX11_units 78 = .ok (.invokevirtual 93, 3) := by decide +kernel
theorem dX11_units_81 : decode cX11_units 81 = .ok (.iconst 1, 1) := by decide +kernel
theorem dX11_units_82 : decode cX11_units 82 = .ok (.ireturn, 1) := by decide +kernel
def fX11_units_56 (x0 x1 x2 x3 : Int) (v : V_) : Option (Int × V_) :=
  bd_ (fX0_note (x0 + 141) (x0 + 139) v) fun q12 =>
  bd_ (fX7_setUnits (x0 + 139) x1 x2 x3 q12.2) fun q14 =>
  bd_ (fX11_forgetAll x0 q14.2) fun q15 =>
  some (1, q15.2)
def fX11_units (x0 x1 x2 x3 : Int) (v : V_) : Option (Int × V_) :=
  bd_ (fX11_isKind x1 v) fun q1 =>
  if q1.1 = 0 then (
    some (0, q1.2))
  else (
    if x2 < 1 then (
      some (0, q1.2))
    else (
      if 4 < x2 then (
        some (0, q1.2))
      else (
        if x3 < 1 then (
          some (0, q1.2))
        else (
          if x3 ≤ 6 then (
            bd_ (fX7_unitsOf (x0 + 139) x1 q1.2) fun q8 =>
            if q8.1 = x2 then (
              bd_ (fX7_latencyOf (x0 + 139) x1 q8.2) fun q17 =>
              if q17.1 = x3 then (
                some (0, q17.2))
              else (
                fX11_units_56 x0 x1 x2 x3 q17.2))
            else (
              fX11_units_56 x0 x1 x2 x3 q8.2))
          else (
            some (0, q1.2))))))
section
variable {E : En_} {p : Program} {l : Launch} {e : Env} {s : State} {m : MethodId} {args : Array Value} {below : List Frame} {meth : Method} {c : Code} {sz : Int}
theorem tX11_units_56 (C : MC_ E p s m c cX11_units 4 RX11) (hr : meth.sig.returnType = (some FieldType.boolean)) (hlk : meth.locks = false) (hC : Cl_ E.2.2.2.2.2 sz) (hG : Pg_ E.2.2.2.2.2) {out : Int × V_} (x0 x1 x2 x3 : Int) (v : V_) (T0 : (E.2.2.2.2.2 x0 ∧ ty_ x0 = 11 ∧ ln_ x0 = 0)) (h : fX11_units_56 x0 x1 x2 x3 v = some out) : G_ E p l e (rm_ 2 47) s m args below meth c 4 sz (Q_ E below args s sz sz 0 out.1 out.2) 56 [(0, (2, x0)), (1, (0, x1)), (2, (0, x2)), (3, (0, x3))] [] v sz := by
  rw [fX11_units_56] at h
  refine g_aload_n C (f := 0) dX11_units_56 0 rfl ?_
  have F10 := fX11_7 hC T0.1 T0.2.1
  refine g_getR C (k := 7) (o := 141) okX11 (by decide) kf_RX11_44 dX11_units_57 hC T0.1 T0.2.1 rfl rfl ?_
  refine g_aload_n C (f := 0) dX11_units_60 0 rfl ?_
  have F11 := fX11_6 hC T0.1 T0.2.1
  refine g_getR C (k := 6) (o := 139) okX11 (by decide) kf_RX11_37 dX11_units_61 hC T0.1 T0.2.1 rfl rfl ?_
  obtain ⟨q12, eq12, h⟩ := bd_e h
  refine g_cV C [(2, x0 + 139)] (cX0_note_ok l hC F10 F11 eq12) okX0 F10.2.1 (rg_ hC F10.1) km_RX11_164 cv_X0_note rfl (by decide) rfl rfl (Nat.le_of_ble_eq_true rfl) dX11_units_64 ?_
  refine g_aload_n C (f := 0) dX11_units_67 0 rfl ?_
  have F13 := fX11_6 hC T0.1 T0.2.1
  refine g_getR C (k := 6) (o := 139) okX11 (by decide) kf_RX11_37 dX11_units_68 hC T0.1 T0.2.1 rfl rfl ?_
  refine g_iload_n C (f := 1) dX11_units_71 1 rfl ?_
  refine g_iload_n C (f := 2) dX11_units_72 2 rfl ?_
  refine g_iload_n C (f := 3) dX11_units_73 3 rfl ?_
  obtain ⟨q14, eq14, h⟩ := bd_e h
  refine g_cV C [(0, x1), (0, x2), (0, x3)] (cX7_setUnits_ok l hC F13 eq14) okX7 F13.2.1 (rg_ hC F13.1) km_RX11_216 cv_X7_setUnits rfl (by decide) rfl rfl (Nat.le_of_ble_eq_true rfl) dX11_units_74 ?_
  refine g_aload_n C (f := 0) dX11_units_77 0 rfl ?_
  obtain ⟨q15, eq15, h⟩ := bd_e h
  refine g_cV C [] (cX11_forgetAll_ok l hC hG T0 eq15) okX11 T0.2.1 (rg_ hC T0.1) km_RX11_93 cv_X11_forgetAll rfl (by decide) rfl rfl (Nat.le_of_ble_eq_true rfl) dX11_units_78 ?_
  refine g_iconst C (n := 1) dX11_units_81 (by decide) ?_
  cases h
  exact g_zret C dX11_units_82 hr hlk (Or.inr rfl)
end
theorem cX11_units_ok (l : Launch) {E : En_} {sz : Int} (hC : Cl_ E.2.2.2.2.2 sz) (hG : Pg_ E.2.2.2.2.2) {x0 x1 x2 x3 : Int} {v : V_} {out : Int × V_} (T0 : (E.2.2.2.2.2 x0 ∧ ty_ x0 = 11 ∧ ln_ x0 = 0)) (h : fX11_units x0 x1 x2 x3 v = some out) : Met l yX11_units [.code yX11_units cX11_units 4 (some FieldType.boolean)] (rm_ 2 47) (Pc_ E sz v [(2, x0), (0, x1), (0, x2), (0, x3)]) (Qc_ E sz 0 out.1 out.2) 0 0 (fun q => E.1 < q) := by
  refine met_G0 RX11 (by decide +kernel) rfl (Nat.le_of_ble_eq_true rfl) ?_
  intro p e s m args below meth c C hr hlk
  rw [fX11_units] at h
  refine g_iload_n C (f := 1) dX11_units_0 1 rfl ?_
  obtain ⟨q1, eq1, h⟩ := bd_e h
  refine g_cS C [(0, x1)] (cX11_isKind_ok l hC eq1) km_RX11_110 cs_X11_isKind rfl (by decide) rfl rfl (Nat.le_of_ble_eq_true rfl) dX11_units_1 ?_
  refine g_if_eq C 28 dX11_units_4 rfl (fun c2 => ?_) (fun c2 => ?_)
  · replace h := if_t h c2
    refine g_iconst C (n := 0) dX11_units_28 (by decide) ?_
    cases h
    exact g_zret C dX11_units_29 hr hlk (Or.inl rfl)
  · replace h := if_f h c2
    refine g_iload_n C (f := 2) dX11_units_7 2 rfl ?_
    refine g_iconst C (n := 1) dX11_units_8 (by decide) ?_
    refine g_icmp_lt C 28 dX11_units_9 rfl (fun c3 => ?_) (fun c3 => ?_)
    · replace h := if_t h c3
      refine g_iconst C (n := 0) dX11_units_28 (by decide) ?_
      cases h
      exact g_zret C dX11_units_29 hr hlk (Or.inl rfl)
    · replace h := if_f h c3
      refine g_iload_n C (f := 2) dX11_units_12 2 rfl ?_
      refine g_iconst C (n := 4) dX11_units_13 (by decide) ?_
      refine g_icmp_gt C 28 dX11_units_14 rfl (fun c4 => ?_) (fun c4 => ?_)
      · replace h := if_t h c4
        refine g_iconst C (n := 0) dX11_units_28 (by decide) ?_
        cases h
        exact g_zret C dX11_units_29 hr hlk (Or.inl rfl)
      · replace h := if_f h c4
        refine g_iload_n C (f := 3) dX11_units_17 3 rfl ?_
        refine g_iconst C (n := 1) dX11_units_18 (by decide) ?_
        refine g_icmp_lt C 28 dX11_units_19 rfl (fun c5 => ?_) (fun c5 => ?_)
        · replace h := if_t h c5
          refine g_iconst C (n := 0) dX11_units_28 (by decide) ?_
          cases h
          exact g_zret C dX11_units_29 hr hlk (Or.inl rfl)
        · replace h := if_f h c5
          refine g_iload_n C (f := 3) dX11_units_22 3 rfl ?_
          refine g_bipush C (n := 6) dX11_units_23 (by decide) ?_
          refine g_icmp_le C 30 dX11_units_25 rfl (fun c6 => ?_) (fun c6 => ?_)
          · replace h := if_t h c6
            refine g_aload_n C (f := 0) dX11_units_30 0 rfl ?_
            have F7 := fX11_6 hC T0.1 T0.2.1
            refine g_getR C (k := 6) (o := 139) okX11 (by decide) kf_RX11_37 dX11_units_31 hC T0.1 T0.2.1 rfl rfl ?_
            refine g_iload_n C (f := 1) dX11_units_34 1 rfl ?_
            obtain ⟨q8, eq8, h⟩ := bd_e h
            refine g_cV C [(0, x1)] (cX7_unitsOf_ok l hC F7 eq8) okX7 F7.2.1 (rg_ hC F7.1) km_RX11_113 cv_X7_unitsOf rfl (by decide) rfl rfl (Nat.le_of_ble_eq_true rfl) dX11_units_35 ?_
            refine g_iload_n C (f := 2) dX11_units_38 2 rfl ?_
            refine g_icmp_ne C 56 dX11_units_39 rfl (fun c9 => ?_) (fun c9 => ?_)
            · replace h := if_f h c9
              refine g_sub [0, 1, 2, 3] rfl rfl ?_
              exact tX11_units_56 C hr hlk hC hG _ _ _ _ _ T0 h
            · replace h := if_t h c9
              refine g_aload_n C (f := 0) dX11_units_42 0 rfl ?_
              have F16 := fX11_6 hC T0.1 T0.2.1
              refine g_getR C (k := 6) (o := 139) okX11 (by decide) kf_RX11_37 dX11_units_43 hC T0.1 T0.2.1 rfl rfl ?_
              refine g_iload_n C (f := 1) dX11_units_46 1 rfl ?_
              obtain ⟨q17, eq17, h⟩ := bd_e h
              refine g_cV C [(0, x1)] (cX7_latencyOf_ok l hC F16 eq17) okX7 F16.2.1 (rg_ hC F16.1) km_RX11_116 cv_X7_latencyOf rfl (by decide) rfl rfl (Nat.le_of_ble_eq_true rfl) dX11_units_47 ?_
              refine g_iload_n C (f := 3) dX11_units_50 3 rfl ?_
              refine g_icmp_ne C 56 dX11_units_51 rfl (fun c18 => ?_) (fun c18 => ?_)
              · replace h := if_f h c18
                refine g_sub [0, 1, 2, 3] rfl rfl ?_
                exact tX11_units_56 C hr hlk hC hG _ _ _ _ _ T0 h
              · replace h := if_t h c18
                refine g_iconst C (n := 0) dX11_units_54 (by decide) ?_
                cases h
                exact g_zret C dX11_units_55 hr hlk (Or.inl rfl)
          · replace h := if_f h c6
            refine g_iconst C (n := 0) dX11_units_28 (by decide) ?_
            cases h
            exact g_zret C dX11_units_29 hr hlk (Or.inl rfl)
theorem dX12_adds_0 : decode cX12_adds 0 = .ok (.bipush 34, 2) := by decide +kernel
theorem dX12_adds_2 : decode cX12_adds 2 = .ok (.iload_n 1, 1) := by decide +kernel
theorem dX12_adds_3 : decode cX12_adds 3 = .ok (.imul, 1) := by decide +kernel
theorem dX12_adds_4 : decode cX12_adds 4 = .ok (.aload_n 0, 1) := by decide +kernel
theorem dX12_adds_5 : decode cX12_adds 5 = .ok (.getfield 118, 3) := by decide +kernel
theorem dX12_adds_8 : decode cX12_adds 8 = .ok (.iload_n 1, 1) := by decide +kernel
theorem dX12_adds_9 : decode cX12_adds 9 = .ok (.iaload, 1) := by decide +kernel
theorem dX12_adds_10 : decode cX12_adds 10 = .ok (.iadd, 1) := by decide +kernel
theorem dX12_adds_11 : decode cX12_adds 11 = .ok (.istore 4, 2) := by decide +kernel
theorem dX12_adds_13 : decode cX12_adds 13 = .ok (.aload_n 0, 1) := by decide +kernel
theorem dX12_adds_14 : decode cX12_adds 14 = .ok (.getfield 121, 3) := by decide +kernel
theorem dX12_adds_17 : decode cX12_adds 17 = .ok (.iload 4, 2) := by decide +kernel
theorem dX12_adds_19 : decode cX12_adds 19 = .ok (.iload_n 2, 1) := by decide +kernel
theorem dX12_adds_20 : decode cX12_adds 20 = .ok (.iastore, 1) := by decide +kernel
theorem dX12_adds_21 : decode cX12_adds 21 = .ok (.aload_n 0, 1) := by decide +kernel
theorem dX12_adds_22 : decode cX12_adds 22 = .ok (.getfield 124, 3) := by decide +kernel
theorem dX12_adds_25 : decode cX12_adds 25 = .ok (.iload 4, 2) := by decide +kernel
theorem dX12_adds_27 : decode cX12_adds 27 = .ok (.iload_n 3, 1) := by decide +kernel
theorem dX12_adds_28 : decode cX12_adds 28 = .ok (.iastore, 1) := by decide +kernel
theorem dX12_adds_29 : decode cX12_adds 29 = .ok (.aload_n 0, 1) := by decide +kernel
theorem dX12_adds_30 : decode cX12_adds 30 = .ok (.getfield 130, 3) := by decide +kernel
theorem dX12_adds_33 : decode cX12_adds 33 = .ok (.iload 4, 2) := by decide +kernel
theorem dX12_adds_35 : decode cX12_adds 35 = .ok (.iconst 0, 1) := by decide +kernel
theorem dX12_adds_36 : decode cX12_adds 36 = .ok (.iastore, 1) := by decide +kernel
theorem dX12_adds_37 : decode cX12_adds 37 = .ok (.aload_n 0, 1) := by decide +kernel
theorem dX12_adds_38 : decode cX12_adds 38 = .ok (.getfield 133, 3) := by decide +kernel
theorem dX12_adds_41 : decode cX12_adds 41 = .ok (.iload 4, 2) := by decide +kernel
theorem dX12_adds_43 : decode cX12_adds 43 = .ok (.iconst 0, 1) := by decide +kernel
theorem dX12_adds_44 : decode cX12_adds 44 = .ok (.iastore, 1) := by decide +kernel
theorem dX12_adds_45 : decode cX12_adds 45 = .ok (.aload_n 0, 1) := by decide +kernel
theorem dX12_adds_46 : decode cX12_adds 46 = .ok (.getfield 136, 3) := by decide +kernel
theorem dX12_adds_49 : decode cX12_adds 49 = .ok (.iload 4, 2) := by decide +kernel
theorem dX12_adds_51 : decode cX12_adds 51 = .ok (.bipush (-2), 2) := by decide +kernel
theorem dX12_adds_53 : decode cX12_adds 53 = .ok (.iastore, 1) := by decide +kernel
theorem dX12_adds_54 : decode cX12_adds 54 = .ok (.aload_n 0, 1) := by decide +kernel
theorem dX12_adds_55 : decode cX12_adds 55 = .ok (.getfield 139, 3) := by decide +kernel
theorem dX12_adds_58 : decode cX12_adds 58 = .ok (.iload 4, 2) := by decide +kernel
theorem dX12_adds_60 : decode cX12_adds 60 = .ok (.bipush 20, 2) := by decide +kernel
theorem dX12_adds_62 : decode cX12_adds 62 = .ok (.iastore, 1) := by decide +kernel
theorem dX12_adds_63 : decode cX12_adds 63 = .ok (.aload_n 0, 1) := by decide +kernel
theorem dX12_adds_64 : decode cX12_adds 64 = .ok (.getfield 142, 3) := by decide +kernel
theorem dX12_adds_67 : decode cX12_adds 67 = .ok (.iload 4, 2) := by decide +kernel
theorem dX12_adds_69 : decode cX12_adds 69 = .ok (.bipush 20, 2) := by decide +kernel
theorem dX12_adds_71 : decode cX12_adds 71 = .ok (.iastore, 1) := by decide +kernel
theorem dX12_adds_72 : decode cX12_adds 72 = .ok (.aload_n 0, 1) := by decide +kernel
theorem dX12_adds_73 : decode cX12_adds 73 = .ok (.getfield 145, 3) := by decide +kernel
theorem dX12_adds_76 : decode cX12_adds 76 = .ok (.iload 4, 2) := by decide +kernel
theorem dX12_adds_78 : decode cX12_adds 78 = .ok (.iconst (-1), 1) := by decide +kernel
theorem dX12_adds_79 : decode cX12_adds 79 = .ok (.iastore, 1) := by decide +kernel
theorem dX12_adds_80 : decode cX12_adds 80 = .ok (.aload_n 0, 1) := by decide +kernel
theorem dX12_adds_81 : decode cX12_adds 81 = .ok (.getfield 118, 3) := by decide +kernel
theorem dX12_adds_84 : decode cX12_adds 84 = .ok (.iload_n 1, 1) := by decide +kernel
theorem dX12_adds_85 : decode cX12_adds 85 = .ok (.dup2, 1) := by decide +kernel
theorem dX12_adds_86 : decode cX12_adds 86 = .ok (.iaload, 1) := by decide +kernel
theorem dX12_adds_87 : decode cX12_adds 87 = .ok (.iconst 1, 1) := by decide +kernel
theorem dX12_adds_88 : decode cX12_adds 88 = .ok (.iadd, 1) := by decide +kernel
theorem dX12_adds_89 : decode cX12_adds 89 = .ok (.iastore, 1) := by decide +kernel
theorem dX12_adds_90 : decode cX12_adds 90 = .ok (.iload 4, 2) := by decide +kernel
theorem dX12_adds_92 : decode cX12_adds 92 = .ok (.ireturn, 1) := by decide +kernel
def fX12_adds (x0 x1 x2 x3 : Int) (v : V_) : Option (Int × V_) :=
  ck_ (0 ≤ x1 ∧ x1 < 8) (
  lt_ (wr_ ((wr_ (34 * x1)) + (v (x0 + 34) x1))) fun y3 =>
  ck_ (0 ≤ y3 ∧ y3 < 272) (
  lt_ (up_ v (x0 + 35) y3 x2) fun v6 =>
  ck_ (0 ≤ y3 ∧ y3 < 272) (
  lt_ (up_ v6 (x0 + 36) y3 x3) fun v9 =>
  ck_ (0 ≤ y3 ∧ y3 < 272) (
  lt_ (up_ v9 (x0 + 38) y3 0) fun v12 =>
  ck_ (0 ≤ y3 ∧ y3 < 272) (
  lt_ (up_ v12 (x0 + 39) y3 0) fun v15 =>
  ck_ (0 ≤ y3 ∧ y3 < 272) (
  lt_ (up_ v15 (x0 + 40) y3 (-2)) fun v18 =>
  ck_ (0 ≤ y3 ∧ y3 < 272) (
  lt_ (up_ v18 (x0 + 41) y3 20) fun v21 =>
  ck_ (0 ≤ y3 ∧ y3 < 272) (
  lt_ (up_ v21 (x0 + 42) y3 20) fun v24 =>
  ck_ (0 ≤ y3 ∧ y3 < 272) (
  lt_ (up_ v24 (x0 + 43) y3 (-1)) fun v27 =>
  ck_ (0 ≤ x1 ∧ x1 < 8) (
  ck_ (0 ≤ x1 ∧ x1 < 8) (
  lt_ (up_ v27 (x0 + 34) x1 (wr_ ((v27 (x0 + 34) x1) + 1))) fun v31 =>
  some (y3, v31))))))))))))
theorem cX12_adds_ok (l : Launch) {E : En_} {sz : Int} (hC : Cl_ E.2.2.2.2.2 sz) {x0 x1 x2 x3 : Int} {v : V_} {out : Int × V_} (T0 : (E.2.2.2.2.2 x0 ∧ ty_ x0 = 12 ∧ ln_ x0 = 0)) (h : fX12_adds x0 x1 x2 x3 v = some out) : Met l yX12_adds [.code yX12_adds cX12_adds 5 (some FieldType.int)] (rm_ 0 0) (Pc_ E sz v [(2, x0), (0, x1), (0, x2), (0, x3)]) (Qc_ E sz 0 out.1 out.2) 0 0 (fun q => E.1 < q) := by
  refine met_G0 RX12 (by decide +kernel) rfl (Nat.le_of_ble_eq_true rfl) ?_
  intro p e s m args below meth c C hr hlk
  rw [fX12_adds] at h
  refine g_bipush C (n := 34) dX12_adds_0 (by decide) ?_
  refine g_iload_n C (f := 1) dX12_adds_2 1 rfl ?_
  refine g_imul C dX12_adds_3 ?_
  refine g_aload_n C (f := 0) dX12_adds_4 0 rfl ?_
  have F1 := fX12_53 hC T0.1 T0.2.1
  refine g_getR C (k := 53) (o := 34) okX12 (by decide) kf_RX12_118 dX12_adds_5 hC T0.1 T0.2.1 rfl rfl ?_
  refine g_iload_n C (f := 1) dX12_adds_8 1 rfl ?_
  obtain ⟨c2, h⟩ := ck_e h
  refine g_iald C 8 dX12_adds_9 (rg_ hC F1.1) F1.2.1 F1.2.2 c2 ?_
  refine g_iadd C dX12_adds_10 ?_
  obtain ⟨y3, ey3, h⟩ := lt_e h
  refine g_set C ey3 ?_
  refine g_istore C (i := 4) (ls' := [(4, (0, y3)), (0, (2, x0)), (1, (0, x1)), (2, (0, x2)), (3, (0, x3))]) dX12_adds_11 (by decide) rfl ?_
  refine g_aload_n C (f := 0) dX12_adds_13 1 rfl ?_
  have F4 := fX12_54 hC T0.1 T0.2.1
  refine g_getR C (k := 54) (o := 35) okX12 (by decide) kf_RX12_121 dX12_adds_14 hC T0.1 T0.2.1 rfl rfl ?_
  refine g_iload C (i := 4) dX12_adds_17 0 rfl ?_
  refine g_iload_n C (f := 2) dX12_adds_19 3 rfl ?_
  obtain ⟨c5, h⟩ := ck_e h
  obtain ⟨v6, ev6, h⟩ := lt_e h
  refine g_iast C 272 dX12_adds_20 (rg_ hC F4.1) F4.2.1 F4.2.2 c5 v6 ev6 ?_
  refine g_aload_n C (f := 0) dX12_adds_21 1 rfl ?_
  have F7 := fX12_55 hC T0.1 T0.2.1
  refine g_getR C (k := 55) (o := 36) okX12 (by decide) kf_RX12_124 dX12_adds_22 hC T0.1 T0.2.1 rfl rfl ?_
  refine g_iload C (i := 4) dX12_adds_25 0 rfl ?_
  refine g_iload_n C (f := 3) dX12_adds_27 4 rfl ?_
  obtain ⟨c8, h⟩ := ck_e h
  obtain ⟨v9, ev9, h⟩ := lt_e h
  refine g_iast C 272 dX12_adds_28 (rg_ hC F7.1) F7.2.1 F7.2.2 c8 v9 ev9 ?_
  refine g_aload_n C (f := 0) dX12_adds_29 1 rfl ?_
  have F10 := fX12_57 hC T0.1 T0.2.1
  refine g_getR C (k := 57) (o := 38) okX12 (by decide) kf_RX12_130 dX12_adds_30 hC T0.1 T0.2.1 rfl rfl ?_
  refine g_iload C (i := 4) dX12_adds_33 0 rfl ?_
  refine g_iconst C (n := 0) dX12_adds_35 (by decide) ?_
  obtain ⟨c11, h⟩ := ck_e h
  obtain ⟨v12, ev12, h⟩ := lt_e h
  refine g_iast C 272 dX12_adds_36 (rg_ hC F10.1) F10.2.1 F10.2.2 c11 v12 ev12 ?_
  refine g_aload_n C (f := 0) dX12_adds_37 1 rfl ?_
  have F13 := fX12_58 hC T0.1 T0.2.1
  refine g_getR C (k := 58) (o := 39) okX12 (by decide) kf_RX12_133 dX12_adds_38 hC T0.1 T0.2.1 rfl rfl ?_
  refine g_iload C (i := 4) dX12_adds_41 0 rfl ?_
  refine g_iconst C (n := 0) dX12_adds_43 (by decide) ?_
  obtain ⟨c14, h⟩ := ck_e h
  obtain ⟨v15, ev15, h⟩ := lt_e h
  refine g_iast C 272 dX12_adds_44 (rg_ hC F13.1) F13.2.1 F13.2.2 c14 v15 ev15 ?_
  refine g_aload_n C (f := 0) dX12_adds_45 1 rfl ?_
  have F16 := fX12_59 hC T0.1 T0.2.1
  refine g_getR C (k := 59) (o := 40) okX12 (by decide) kf_RX12_136 dX12_adds_46 hC T0.1 T0.2.1 rfl rfl ?_
  refine g_iload C (i := 4) dX12_adds_49 0 rfl ?_
  refine g_bipush C (n := (-2)) dX12_adds_51 (by decide) ?_
  obtain ⟨c17, h⟩ := ck_e h
  obtain ⟨v18, ev18, h⟩ := lt_e h
  refine g_iast C 272 dX12_adds_53 (rg_ hC F16.1) F16.2.1 F16.2.2 c17 v18 ev18 ?_
  refine g_aload_n C (f := 0) dX12_adds_54 1 rfl ?_
  have F19 := fX12_60 hC T0.1 T0.2.1
  refine g_getR C (k := 60) (o := 41) okX12 (by decide) kf_RX12_139 dX12_adds_55 hC T0.1 T0.2.1 rfl rfl ?_
  refine g_iload C (i := 4) dX12_adds_58 0 rfl ?_
  refine g_bipush C (n := 20) dX12_adds_60 (by decide) ?_
  obtain ⟨c20, h⟩ := ck_e h
  obtain ⟨v21, ev21, h⟩ := lt_e h
  refine g_iast C 272 dX12_adds_62 (rg_ hC F19.1) F19.2.1 F19.2.2 c20 v21 ev21 ?_
  refine g_aload_n C (f := 0) dX12_adds_63 1 rfl ?_
  have F22 := fX12_61 hC T0.1 T0.2.1
  refine g_getR C (k := 61) (o := 42) okX12 (by decide) kf_RX12_142 dX12_adds_64 hC T0.1 T0.2.1 rfl rfl ?_
  refine g_iload C (i := 4) dX12_adds_67 0 rfl ?_
  refine g_bipush C (n := 20) dX12_adds_69 (by decide) ?_
  obtain ⟨c23, h⟩ := ck_e h
  obtain ⟨v24, ev24, h⟩ := lt_e h
  refine g_iast C 272 dX12_adds_71 (rg_ hC F22.1) F22.2.1 F22.2.2 c23 v24 ev24 ?_
  refine g_aload_n C (f := 0) dX12_adds_72 1 rfl ?_
  have F25 := fX12_62 hC T0.1 T0.2.1
  refine g_getR C (k := 62) (o := 43) okX12 (by decide) kf_RX12_145 dX12_adds_73 hC T0.1 T0.2.1 rfl rfl ?_
  refine g_iload C (i := 4) dX12_adds_76 0 rfl ?_
  refine g_iconst C (n := (-1)) dX12_adds_78 (by decide) ?_
  obtain ⟨c26, h⟩ := ck_e h
  obtain ⟨v27, ev27, h⟩ := lt_e h
  refine g_iast C 272 dX12_adds_79 (rg_ hC F25.1) F25.2.1 F25.2.2 c26 v27 ev27 ?_
  refine g_aload_n C (f := 0) dX12_adds_80 1 rfl ?_
  have F28 := fX12_53 hC T0.1 T0.2.1
  refine g_getR C (k := 53) (o := 34) okX12 (by decide) kf_RX12_118 dX12_adds_81 hC T0.1 T0.2.1 rfl rfl ?_
  refine g_iload_n C (f := 1) dX12_adds_84 2 rfl ?_
  refine g_dup2 C (Nat.ne_of_beq_eq_false rfl) (Nat.ne_of_beq_eq_false rfl) dX12_adds_85 ?_
  obtain ⟨c29, h⟩ := ck_e h
  refine g_iald C 8 dX12_adds_86 (rg_ hC F28.1) F28.2.1 F28.2.2 c29 ?_
  refine g_iconst C (n := 1) dX12_adds_87 (by decide) ?_
  refine g_iadd C dX12_adds_88 ?_
  obtain ⟨c30, h⟩ := ck_e h
  obtain ⟨v31, ev31, h⟩ := lt_e h
  refine g_iast C 8 dX12_adds_89 (rg_ hC F28.1) F28.2.1 F28.2.2 c30 v31 ev31 ?_
  refine g_iload C (i := 4) dX12_adds_90 0 rfl ?_
  cases h
  exact g_iret C dX12_adds_92 hr hlk
theorem dX12_readAs_0 : decode cX12_readAs 0 = .ok (.iload_n 1, 1) := by decide +kernel
theorem dX12_readAs_1 : decode cX12_readAs 1 = .ok (.bipush 6, 2) := by decide +kernel
theorem dX12_readAs_3 : decode cX12_readAs 3 = .ok (.if_icmp .ge 12, 3) := by decide +kernel
theorem dX12_readAs_6 : decode cX12_readAs 6 = .ok (.aload_n 0, 1) := by decide +kernel
theorem dX12_readAs_7 : decode cX12_readAs 7 = .ok (.getfield 157, 3) := by decide +kernel
theorem dX12_readAs_10 : decode cX12_readAs 10 = .ok (.iload_n 1, 1) := by decide +kernel
theorem dX12_readAs_11 : decode cX12_readAs 11 = .ok (.iaload, 1) := by decide +kernel
theorem dX12_readAs_12 : decode cX12_readAs 12 = .ok (.goto 4, 3) := by decide +kernel
theorem dX12_readAs_15 : decode cX12_readAs 15 = .ok (.iload_n 1, 1) := by decide +kernel
theorem dX12_readAs_16 : decode cX12_readAs 16 = .ok (.ireturn, 1) := by decide +kernel
def fX12_readAs (x0 x1 : Int) (v : V_) : Option (Int × V_) :=
  if 6 ≤ x1 then (
    some (x1, v))
  else (
    ck_ (0 ≤ x1 ∧ x1 < 6) (
    some (v (x0 + 47) x1, v)))
theorem cX12_readAs_ok (l : Launch) {E : En_} {sz : Int} (hC : Cl_ E.2.2.2.2.2 sz) {x0 x1 : Int} {v : V_} {out : Int × V_} (T0 : (E.2.2.2.2.2 x0 ∧ ty_ x0 = 12 ∧ ln_ x0 = 0)) (h : fX12_readAs x0 x1 v = some out) : Met l yX12_readAs [.code yX12_readAs cX12_readAs 2 (some FieldType.int)] (rm_ 0 0) (Pc_ E sz v [(2, x0), (0, x1)]) (Qc_ E sz 0 out.1 out.2) 0 0 (fun q => E.1 < q) := by
  refine met_G0 RX12 (by decide +kernel) rfl (Nat.le_of_ble_eq_true rfl) ?_
  intro p e s m args below meth c C hr hlk
  rw [fX12_readAs] at h
  refine g_iload_n C (f := 1) dX12_readAs_0 1 rfl ?_
  refine g_bipush C (n := 6) dX12_readAs_1 (by decide) ?_
  refine g_icmp_ge C 15 dX12_readAs_3 rfl (fun c1 => ?_) (fun c1 => ?_)
  · replace h := if_t h c1
    refine g_iload_n C (f := 1) dX12_readAs_15 1 rfl ?_
    cases h
    exact g_iret C dX12_readAs_16 hr hlk
  · replace h := if_f h c1
    refine g_aload_n C (f := 0) dX12_readAs_6 0 rfl ?_
    have F2 := fX12_66 hC T0.1 T0.2.1
    refine g_getR C (k := 66) (o := 47) okX12 (by decide) kf_RX12_157 dX12_readAs_7 hC T0.1 T0.2.1 rfl rfl ?_
    refine g_iload_n C (f := 1) dX12_readAs_10 1 rfl ?_
    obtain ⟨c3, h⟩ := ck_e h
    refine g_iald C 6 dX12_readAs_11 (rg_ hC F2.1) F2.2.1 F2.2.2 c3 ?_
    refine g_goto C 16 dX12_readAs_12 rfl ?_
    cases h
    exact g_iret C dX12_readAs_16 hr hlk
theorem dX12_wayTo_0 : decode cX12_wayTo 0 = .ok (.aload_n 0, 1) := by decide +kernel
theorem dX12_wayTo_1 : decode cX12_wayTo 1 = .ok (.getfield 79, 3) := by decide +kernel
theorem dX12_wayTo_4 : decode cX12_wayTo 4 = .ok (.bipush 16, 2) := by decide +kernel
theorem dX12_wayTo_6 : decode cX12_wayTo 6 = .ok (.aload_n 0, 1) := by decide +kernel
theorem dX12_wayTo_7 : decode cX12_wayTo 7 = .ok (.getfield 272, 3) := by decide +kernel
theorem dX12_wayTo_10 : decode cX12_wayTo 10 = .ok (.imul, 1) := by decide +kernel
theorem dX12_wayTo_11 : decode cX12_wayTo 11 = .ok (.iconst 2, 1) := by decide +kernel
theorem dX12_wayTo_12 : decode cX12_wayTo 12 = .ok (.iload_n 1, 1) := by decide +kernel
theorem dX12_wayTo_13 : decode cX12_wayTo 13 = .ok (.imul, 1) := by decide +kernel
theorem dX12_wayTo_14 : decode cX12_wayTo 14 = .ok (.iadd, 1) := by decide +kernel
theorem dX12_wayTo_15 : decode cX12_wayTo 15 = .ok (.iload_n 2, 1) := by decide +kernel
theorem dX12_wayTo_16 : decode cX12_wayTo 16 = .ok (.iadd, 1) := by decide +kernel
theorem dX12_wayTo_17 : decode cX12_wayTo 17 = .ok (.iaload, 1) := by decide +kernel
theorem dX12_wayTo_18 : decode cX12_wayTo 18 = .ok (.ireturn, 1) := by decide +kernel
def fX12_wayTo (x0 x1 x2 : Int) (v : V_) : Option (Int × V_) :=
  ck_ (0 ≤ wr_ ((wr_ ((wr_ (16 * (v x0 18))) + (wr_ (2 * x1)))) + x2) ∧ wr_ ((wr_ ((wr_ (16 * (v x0 18))) + (wr_ (2 * x1)))) + x2) < 32) (
  some (v (x0 + 21) (wr_ ((wr_ ((wr_ (16 * (v x0 18))) + (wr_ (2 * x1)))) + x2)), v))
theorem cX12_wayTo_ok (l : Launch) {E : En_} {sz : Int} (hC : Cl_ E.2.2.2.2.2 sz) {x0 x1 x2 : Int} {v : V_} {out : Int × V_} (T0 : (E.2.2.2.2.2 x0 ∧ ty_ x0 = 12 ∧ ln_ x0 = 0)) (h : fX12_wayTo x0 x1 x2 v = some out) : Met l yX12_wayTo [.code yX12_wayTo cX12_wayTo 3 (some FieldType.int)] (rm_ 0 0) (Pc_ E sz v [(2, x0), (0, x1), (0, x2)]) (Qc_ E sz 0 out.1 out.2) 0 0 (fun q => E.1 < q) := by
  refine met_G0 RX12 (by decide +kernel) rfl (Nat.le_of_ble_eq_true rfl) ?_
  intro p e s m args below meth c C hr hlk
  rw [fX12_wayTo] at h
  refine g_aload_n C (f := 0) dX12_wayTo_0 0 rfl ?_
  have F1 := fX12_34 hC T0.1 T0.2.1
  refine g_getR C (k := 34) (o := 21) okX12 (by decide) kf_RX12_79 dX12_wayTo_1 hC T0.1 T0.2.1 rfl rfl ?_
  refine g_bipush C (n := 16) dX12_wayTo_4 (by decide) ?_
  refine g_aload_n C (f := 0) dX12_wayTo_6 0 rfl ?_
  refine g_getf C (k := 18) (kd := 0) okX12 (by decide) kf_RX12_272 dX12_wayTo_7 (rg_ hC T0.1) T0.2.1 rfl ?_
  refine g_imul C dX12_wayTo_10 ?_
  refine g_iconst C (n := 2) dX12_wayTo_11 (by decide) ?_
  refine g_iload_n C (f := 1) dX12_wayTo_12 1 rfl ?_
  refine g_imul C dX12_wayTo_13 ?_
  refine g_iadd C dX12_wayTo_14 ?_
  refine g_iload_n C (f := 2) dX12_wayTo_15 2 rfl ?_
  refine g_iadd C dX12_wayTo_16 ?_
  obtain ⟨c2, h⟩ := ck_e h
  refine g_iald C 32 dX12_wayTo_17 (rg_ hC F1.1) F1.2.1 F1.2.2 c2 ?_
  cases h
  exact g_iret C dX12_wayTo_18 hr hlk
theorem dX12_addsEnd_0 : decode cX12_addsEnd 0 = .ok (.bipush 8, 2) := by decide +kernel
theorem dX12_addsEnd_2 : decode cX12_addsEnd 2 = .ok (.aload_n 0, 1) := by decide +kernel
theorem dX12_addsEnd_3 : decode cX12_addsEnd 3 = .ok (.getfield 272, 3) := by decide +kernel
theorem dX12_addsEnd_6 : decode cX12_addsEnd 6 = .ok (.imul, 1) := by decide +kernel
theorem dX12_addsEnd_7 : decode cX12_addsEnd 7 = .ok (.iload_n 2, 1) := by decide +kernel
theorem dX12_addsEnd_8 : decode cX12_addsEnd 8 = .ok (.iadd, 1) := by decide +kernel
theorem dX12_addsEnd_9 : decode cX12_addsEnd 9 = .ok (.istore 4, 2) := by decide +kernel
theorem dX12_addsEnd_11 : decode cX12_addsEnd 11 = .ok (.iload_n 3, 1) := by decide +kernel
theorem dX12_addsEnd_12 : decode cX12_addsEnd 12 = .ok (.ifCond .lt 34, 3) := by decide +kernel
theorem dX12_addsEnd_15 : decode cX12_addsEnd 15 = .ok (.aload_n 0, 1) := by decide +kernel
theorem dX12_addsEnd_16 : decode cX12_addsEnd 16 = .ok (.getfield 70, 3) := by decide +kernel
theorem dX12_addsEnd_19 : decode cX12_addsEnd 19 = .ok (.iload 4, 2) := by decide +kernel
theorem dX12_addsEnd_21 : decode cX12_addsEnd 21 = .ok (.iaload, 1) := by decide +kernel
theorem dX12_addsEnd_22 : decode cX12_addsEnd 22 = .ok (.ifCond .eq 23, 3) := by decide +kernel
theorem dX12_addsEnd_25 : decode cX12_addsEnd 25 = .ok (.aload_n 0, 1) := by decide +kernel
theorem dX12_addsEnd_26 : decode cX12_addsEnd 26 = .ok (.iload_n 2, 1) := by decide +kernel
theorem dX12_addsEnd_27 : decode cX12_addsEnd 27 = .ok (.iconst 0, 1) := by decide +kernel
theorem dX12_addsEnd_28 : decode cX12_addsEnd 28 = .ok (.invokevirtual 378, 3) := by decide +kernel
theorem dX12_addsEnd_31 : decode cX12_addsEnd 31 = .ok (.iload_n 3, 1) := by decide +kernel
theorem dX12_addsEnd_32 : decode cX12_addsEnd 32 = .ok (.if_icmp .ne 14, 3) := by decide +kernel
theorem dX12_addsEnd_35 : decode cX12_addsEnd 35 = .ok (.aload_n 0, 1) := by decide +kernel
theorem dX12_addsEnd_36 : decode cX12_addsEnd 36 = .ok (.iload_n 2, 1) := by decide +kernel
theorem dX12_addsEnd_37 : decode cX12_addsEnd 37 = .ok (.iconst 1, 1) := by decide +kernel
theorem dX12_addsEnd_38 : decode cX12_addsEnd 38 = .ok (.invokevirtual 378, 3) := by decide +kernel
theorem dX12_addsEnd_41 : decode cX12_addsEnd 41 = .ok (.iload_n 3, 1) := by decide +kernel
theorem dX12_addsEnd_42 : decode cX12_addsEnd 42 = .ok (.if_icmp .ne 4, 3) := by decide +kernel
theorem dX12_addsEnd_45 : decode cX12_addsEnd 45 = .ok (.return_, 1) := by decide +kernel
theorem dX12_addsEnd_46 : decode cX12_addsEnd 46 = .ok (.aload_n 0, 1) := by decide +kernel
theorem dX12_addsEnd_47 : decode cX12_addsEnd 47 = .ok (.iload_n 1, 1) := by decide +kernel
theorem dX12_addsEnd_48 : decode cX12_addsEnd 48 = .ok (.iload_n 3, 1) := by decide +kernel
theorem dX12_addsEnd_49 : decode cX12_addsEnd 49 = .ok (.ifCond .ge 7, 3) := by decide +kernel
theorem dX12_addsEnd_52 : decode cX12_addsEnd 52 = .ok (.iconst 3, 1) := by decide +kernel
theorem dX12_addsEnd_53 : decode cX12_addsEnd 53 = .ok (.goto 4, 3) := by decide +kernel
theorem dX12_addsEnd_56 : decode cX12_addsEnd 56 = .ok (.iconst 2, 1) := by decide +kernel
theorem dX12_addsEnd_57 : decode cX12_addsEnd 57 = .ok (.iload_n 2, 1) := by decide +kernel
theorem dX12_addsEnd_58 : decode cX12_addsEnd 58 = .ok (.invokevirtual 433, 3) := by decide +kernel
theorem dX12_addsEnd_61 : decode cX12_addsEnd 61 = .ok (.istore 5, 2) := by decide +kernel
theorem dX12_addsEnd_63 : decode cX12_addsEnd 63 = .ok (.aload_n 0, 1) := by decide +kernel
theorem dX12_addsEnd_64 : decode cX12_addsEnd 64 = .ok (.getfield 127, 3) := by decide +kernel
theorem dX12_addsEnd_67 : decode cX12_addsEnd 67 = .ok (.iload 5, 2) := by decide +kernel
theorem dX12_addsEnd_69 : decode cX12_addsEnd 69 = .ok (.iconst 3, 1) := by decide +kernel
theorem dX12_addsEnd_70 : decode cX12_addsEnd 70 = .ok (.iastore, 1) := by decide +kernel
theorem dX12_addsEnd_71 : decode cX12_addsEnd 71 = .ok (.aload_n 0, 1) := by decide +kernel
theorem dX12_addsEnd_72 : decode cX12_addsEnd 72 = .ok (.getfield 130, 3) := by decide +kernel
theorem dX12_addsEnd_75 : decode cX12_addsEnd 75 = .ok (.iload 5, 2) := by decide +kernel
theorem dX12_addsEnd_77 : decode cX12_addsEnd 77 = .ok (.aload_n 0, 1) := by decide +kernel
theorem dX12_addsEnd_78 : decode cX12_addsEnd 78 = .ok (.getfield 70, 3) := by decide +kernel
theorem dX12_addsEnd_81 : decode cX12_addsEnd 81 = .ok (.iload 4, 2) := by decide +kernel
theorem dX12_addsEnd_83 : decode cX12_addsEnd 83 = .ok (.iaload, 1) := by decide +kernel
theorem dX12_addsEnd_84 : decode cX12_addsEnd 84 = .ok (.iastore, 1) := by decide +kernel
theorem dX12_addsEnd_85 : decode cX12_addsEnd 85 = .ok (.aload_n 0, 1) := by decide +kernel
theorem dX12_addsEnd_86 : decode cX12_addsEnd 86 = .ok (.getfield 70, 3) := by decide +kernel
theorem dX12_addsEnd_89 : decode cX12_addsEnd 89 = .ok (.iload 4, 2) := by decide +kernel
theorem dX12_addsEnd_91 : decode cX12_addsEnd 91 = .ok (.iaload, 1) := by decide +kernel
theorem dX12_addsEnd_92 : decode cX12_addsEnd 92 = .ok (.iconst 1, 1) := by decide +kernel
theorem dX12_addsEnd_93 : decode cX12_addsEnd 93 = .ok (.if_icmp .ne 39, 3) := by decide +kernel
theorem dX12_addsEnd_96 : decode cX12_addsEnd 96 = .ok (.aload_n 0, 1) := by decide +kernel
theorem dX12_addsEnd_97 : decode cX12_addsEnd 97 = .ok (.getfield 139, 3) := by decide +kernel
theorem dX12_addsEnd_100 : decode cX12_addsEnd 100 = .ok (.iload 5, 2) := by decide +kernel
theorem dX12_addsEnd_102 : decode cX12_addsEnd 102 = .ok (.aload_n 0, 1) := by decide +kernel
theorem dX12_addsEnd_103 : decode cX12_addsEnd 103 = .ok (.aload_n 0, 1) := by decide +kernel
theorem dX12_addsEnd_104 : decode cX12_addsEnd 104 = .ok (.getfield 73, 3) := by decide +kernel
theorem dX12_addsEnd_107 : decode cX12_addsEnd 107 = .ok (.iload 4, 2) := by decide +kernel
theorem dX12_addsEnd_109 : decode cX12_addsEnd 109 = .ok (.iaload, 1) := by decide +kernel
theorem dX12_addsEnd_110 : decode cX12_addsEnd 110 = .ok (.invokevirtual 436, 3) := by decide +kernel
theorem dX12_addsEnd_113 : decode cX12_addsEnd 113 = .ok (.iastore, 1) := by decide +kernel
theorem dX12_addsEnd_114 : decode cX12_addsEnd 114 = .ok (.aload_n 0, 1) := by decide +kernel
theorem dX12_addsEnd_115 : decode cX12_addsEnd 115 = .ok (.getfield 142, 3) := by decide +kernel
theorem dX12_addsEnd_118 : decode cX12_addsEnd 118 = .ok (.iload 5, 2) := by decide +kernel
theorem dX12_addsEnd_120 : decode cX12_addsEnd 120 = .ok (.aload_n 0, 1) := by decide +kernel
theorem dX12_addsEnd_121 : decode cX12_addsEnd 121 = .ok (.aload_n 0, 1) := by decide +kernel
theorem dX12_addsEnd_122 : decode cX12_addsEnd 122 = .ok (.getfield 76, 3) := by decide +kernel
theorem dX12_addsEnd_125 : decode cX12_addsEnd 125 = .ok (.iload 4, 2) := by decide +kernel
theorem dX12_addsEnd_127 : decode cX12_addsEnd 127 = .ok (.iaload, 1) := by decide +kernel
theorem dX12_addsEnd_128 : decode cX12_addsEnd 128 = .ok (.invokevirtual 436, 3) := by decide +kernel
theorem dX12_addsEnd_131 : decode cX12_addsEnd 131 = .ok (.iastore, 1) := by decide +kernel
theorem dX12_addsEnd_132 : decode cX12_addsEnd 132 = .ok (.iload_n 3, 1) := by decide +kernel
theorem dX12_addsEnd_133 : decode cX12_addsEnd 133 = .ok (.ifCond .lt 25, 3) := by decide +kernel
theorem dX12_addsEnd_136 : decode cX12_addsEnd 136 = .ok (.aload_n 0, 1) := by decide +kernel
theorem dX12_addsEnd_137 : decode cX12_addsEnd 137 = .ok (.getfield 145, 3) := by decide +kernel
theorem dX12_addsEnd_140 : decode cX12_addsEnd 140 = .ok (.iload 5, 2) := by decide +kernel
theorem dX12_addsEnd_142 : decode cX12_addsEnd 142 = .ok (.aload_n 0, 1) := by decide +kernel
theorem dX12_addsEnd_143 : decode cX12_addsEnd 143 = .ok (.iload_n 2, 1) := by decide +kernel
theorem dX12_addsEnd_144 : decode cX12_addsEnd 144 = .ok (.iconst 0, 1) := by decide +kernel
theorem dX12_addsEnd_145 : decode cX12_addsEnd 145 = .ok (.invokevirtual 378, 3) := by decide +kernel
theorem dX12_addsEnd_148 : decode cX12_addsEnd 148 = .ok (.iload_n 3, 1) := by decide +kernel
theorem dX12_addsEnd_149 : decode cX12_addsEnd 149 = .ok (.if_icmp .ne 7, 3) := by decide +kernel
theorem dX12_addsEnd_152 : decode cX12_addsEnd 152 = .ok (.iconst 1, 1) := by decide +kernel
theorem dX12_addsEnd_153 : decode cX12_addsEnd 153 = .ok (.goto 4, 3) := by decide +kernel
theorem dX12_addsEnd_156 : decode cX12_addsEnd 156 = .ok (.iconst 0, 1) := by decide +kernel
theorem dX12_addsEnd_157 : decode cX12_addsEnd 157 = .ok (.iastore, 1) := by decide +kernel
theorem dX12_addsEnd_158 : decode cX12_addsEnd 158 = .ok (.return_, 1) := by decide +kernel
def fX12_addsEnd_132 (x0 x2 x3 x5 : Int) (v : V_) : Option (Int × V_) :=
  if x3 < 0 then (
    some (0, v))
  else (
    bd_ (fX12_wayTo x0 x2 0 v) fun q18 =>
    if q18.1 = x3 then (
      ck_ (0 ≤ x5 ∧ x5 < 272) (
      lt_ (up_ q18.2 (x0 + 43) x5 1) fun v23 =>
      some (0, v23)))
    else (
      ck_ (0 ≤ x5 ∧ x5 < 272) (
      lt_ (up_ q18.2 (x0 + 43) x5 0) fun v21 =>
      some (0, v21))))
def fX12_addsEnd_57 (x0 x2 x3 x4 s0 s1 s2 : Int) (v : V_) : Option (Int × V_) :=
  bd_ (fX12_adds s0 s1 s2 x2 v) fun q4 =>
  ck_ (0 ≤ q4.1 ∧ q4.1 < 272) (
  lt_ (up_ q4.2 (x0 + 37) q4.1 3) fun v7 =>
  ck_ (0 ≤ x4 ∧ x4 < 16) (
  ck_ (0 ≤ q4.1 ∧ q4.1 < 272) (
  lt_ (up_ v7 (x0 + 38) q4.1 (v7 (x0 + 18) x4)) fun v12 =>
  ck_ (0 ≤ x4 ∧ x4 < 16) (
  if (v12 (x0 + 18) x4) = 1 then (
    ck_ (0 ≤ x4 ∧ x4 < 16) (
    bd_ (fX12_readAs x0 (v12 (x0 + 19) x4) v12) fun q27 =>
    ck_ (0 ≤ q4.1 ∧ q4.1 < 272) (
    lt_ (up_ q27.2 (x0 + 41) q4.1 q27.1) fun v29 =>
    ck_ (0 ≤ x4 ∧ x4 < 16) (
    bd_ (fX12_readAs x0 (v29 (x0 + 20) x4) v29) fun q33 =>
    ck_ (0 ≤ q4.1 ∧ q4.1 < 272) (
    lt_ (up_ q33.2 (x0 + 42) q4.1 q33.1) fun v35 =>
    fX12_addsEnd_132 x0 x2 x3 q4.1 v35)))))
  else (
    fX12_addsEnd_132 x0 x2 x3 q4.1 v12)))))
def fX12_addsEnd_46 (x0 x1 x2 x3 x4 : Int) (v : V_) : Option (Int × V_) :=
  if 0 ≤ x3 then (
    fX12_addsEnd_57 x0 x2 x3 x4 x0 x1 2 v)
  else (
    fX12_addsEnd_57 x0 x2 x3 x4 x0 x1 3 v)
def fX12_addsEnd (x0 x1 x2 x3 : Int) (v : V_) : Option (Int × V_) :=
  lt_ (wr_ ((wr_ (8 * (v x0 18))) + x2)) fun y1 =>
  if x3 < 0 then (
    fX12_addsEnd_46 x0 x1 x2 x3 y1 v)
  else (
    ck_ (0 ≤ y1 ∧ y1 < 16) (
    if (v (x0 + 18) y1) = 0 then (
      some (0, v))
    else (
      bd_ (fX12_wayTo x0 x2 0 v) fun q39 =>
      if q39.1 = x3 then (
        bd_ (fX12_wayTo x0 x2 1 q39.2) fun q41 =>
        if q41.1 = x3 then (
          some (0, q41.2))
        else (
          fX12_addsEnd_46 x0 x1 x2 x3 y1 q41.2))
      else (
        fX12_addsEnd_46 x0 x1 x2 x3 y1 q39.2))))
section
variable {E : En_} {p : Program} {l : Launch} {e : Env} {s : State} {m : MethodId} {args : Array Value} {below : List Frame} {meth : Method} {c : Code} {sz : Int}
theorem tX12_addsEnd_132 (C : MC_ E p s m c cX12_addsEnd 6 RX12) (hr : meth.sig.returnType = (none : Option FieldType)) (hlk : meth.locks = false) (hC : Cl_ E.2.2.2.2.2 sz) {out : Int × V_} (x0 x2 x3 x5 : Int) (v : V_) (T0 : (E.2.2.2.2.2 x0 ∧ ty_ x0 = 12 ∧ ln_ x0 = 0)) (h : fX12_addsEnd_132 x0 x2 x3 x5 v = some out) : G_ E p l e (rm_ 1 24) s m args below meth c 6 sz (Q_ E below args s sz sz 9 out.1 out.2) 132 [(0, (2, x0)), (2, (0, x2)), (3, (0, x3)), (5, (0, x5))] [] v sz := by
  rw [fX12_addsEnd_132] at h
  refine g_iload_n C (f := 3) dX12_addsEnd_132 2 rfl ?_
  refine g_if_lt C 158 dX12_addsEnd_133 rfl (fun c16 => ?_) (fun c16 => ?_)
  · replace h := if_t h c16
    cases h
    exact g_vret C dX12_addsEnd_158 hr hlk
  · replace h := if_f h c16
    refine g_aload_n C (f := 0) dX12_addsEnd_136 0 rfl ?_
    have F17 := fX12_62 hC T0.1 T0.2.1
    refine g_getR C (k := 62) (o := 43) okX12 (by decide) kf_RX12_145 dX12_addsEnd_137 hC T0.1 T0.2.1 rfl rfl ?_
    refine g_iload C (i := 5) dX12_addsEnd_140 3 rfl ?_
    refine g_aload_n C (f := 0) dX12_addsEnd_142 0 rfl ?_
    refine g_iload_n C (f := 2) dX12_addsEnd_143 1 rfl ?_
    refine g_iconst C (n := 0) dX12_addsEnd_144 (by decide) ?_
    obtain ⟨q18, eq18, h⟩ := bd_e h
    refine g_cV C [(0, x2), (0, 0)] (cX12_wayTo_ok l hC T0 eq18) okX12 T0.2.1 (rg_ hC T0.1) km_RX12_378 cv_X12_wayTo rfl (by decide) rfl rfl (Nat.le_of_ble_eq_true rfl) dX12_addsEnd_145 ?_
    refine g_iload_n C (f := 3) dX12_addsEnd_148 2 rfl ?_
    refine g_icmp_ne C 156 dX12_addsEnd_149 rfl (fun c19 => ?_) (fun c19 => ?_)
    · replace h := if_f h c19
      refine g_iconst C (n := 0) dX12_addsEnd_156 (by decide) ?_
      obtain ⟨c20, h⟩ := ck_e h
      obtain ⟨v21, ev21, h⟩ := lt_e h
      refine g_iast C 272 dX12_addsEnd_157 (rg_ hC F17.1) F17.2.1 F17.2.2 c20 v21 ev21 ?_
      cases h
      exact g_vret C dX12_addsEnd_158 hr hlk
    · replace h := if_t h c19
      refine g_iconst C (n := 1) dX12_addsEnd_152 (by decide) ?_
      refine g_goto C 157 dX12_addsEnd_153 rfl ?_
      obtain ⟨c22, h⟩ := ck_e h
      obtain ⟨v23, ev23, h⟩ := lt_e h
      refine g_iast C 272 dX12_addsEnd_157 (rg_ hC F17.1) F17.2.1 F17.2.2 c22 v23 ev23 ?_
      cases h
      exact g_vret C dX12_addsEnd_158 hr hlk
theorem tX12_addsEnd_57 (C : MC_ E p s m c cX12_addsEnd 6 RX12) (hr : meth.sig.returnType = (none : Option FieldType)) (hlk : meth.locks = false) (hC : Cl_ E.2.2.2.2.2 sz) {out : Int × V_} (x0 x2 x3 x4 s0 s1 s2 : Int) (v : V_) (T0 : (E.2.2.2.2.2 x0 ∧ ty_ x0 = 12 ∧ ln_ x0 = 0)) (S0 : (E.2.2.2.2.2 s0 ∧ ty_ s0 = 12 ∧ ln_ s0 = 0)) (h : fX12_addsEnd_57 x0 x2 x3 x4 s0 s1 s2 v = some out) : G_ E p l e (rm_ 1 24) s m args below meth c 6 sz (Q_ E below args s sz sz 9 out.1 out.2) 57 [(0, (2, x0)), (2, (0, x2)), (3, (0, x3)), (4, (0, x4))] [(0, s2), (0, s1), (2, s0)] v sz := by
  rw [fX12_addsEnd_57] at h
  refine g_iload_n C (f := 2) dX12_addsEnd_57 1 rfl ?_
  obtain ⟨q4, eq4, h⟩ := bd_e h
  refine g_cV C [(0, s1), (0, s2), (0, x2)] (cX12_adds_ok l hC S0 eq4) okX12 S0.2.1 (rg_ hC S0.1) km_RX12_433 cv_X12_adds rfl (by decide) rfl rfl (Nat.le_of_ble_eq_true rfl) dX12_addsEnd_58 ?_
  refine g_istore C (i := 5) (ls' := [(5, (0, q4.1)), (0, (2, x0)), (2, (0, x2)), (3, (0, x3)), (4, (0, x4))]) dX12_addsEnd_61 (by decide) rfl ?_
  refine g_aload_n C (f := 0) dX12_addsEnd_63 1 rfl ?_
  have F5 := fX12_56 hC T0.1 T0.2.1
  refine g_getR C (k := 56) (o := 37) okX12 (by decide) kf_RX12_127 dX12_addsEnd_64 hC T0.1 T0.2.1 rfl rfl ?_
  refine g_iload C (i := 5) dX12_addsEnd_67 0 rfl ?_
  refine g_iconst C (n := 3) dX12_addsEnd_69 (by decide) ?_
  obtain ⟨c6, h⟩ := ck_e h
  obtain ⟨v7, ev7, h⟩ := lt_e h
  refine g_iast C 272 dX12_addsEnd_70 (rg_ hC F5.1) F5.2.1 F5.2.2 c6 v7 ev7 ?_
  refine g_aload_n C (f := 0) dX12_addsEnd_71 1 rfl ?_
  have F8 := fX12_57 hC T0.1 T0.2.1
  refine g_getR C (k := 57) (o := 38) okX12 (by decide) kf_RX12_130 dX12_addsEnd_72 hC T0.1 T0.2.1 rfl rfl ?_
  refine g_iload C (i := 5) dX12_addsEnd_75 0 rfl ?_
  refine g_aload_n C (f := 0) dX12_addsEnd_77 1 rfl ?_
  have F9 := fX12_31 hC T0.1 T0.2.1
  refine g_getR C (k := 31) (o := 18) okX12 (by decide) kf_RX12_70 dX12_addsEnd_78 hC T0.1 T0.2.1 rfl rfl ?_
  refine g_iload C (i := 4) dX12_addsEnd_81 4 rfl ?_
  obtain ⟨c10, h⟩ := ck_e h
  refine g_iald C 16 dX12_addsEnd_83 (rg_ hC F9.1) F9.2.1 F9.2.2 c10 ?_
  obtain ⟨c11, h⟩ := ck_e h
  obtain ⟨v12, ev12, h⟩ := lt_e h
  refine g_iast C 272 dX12_addsEnd_84 (rg_ hC F8.1) F8.2.1 F8.2.2 c11 v12 ev12 ?_
  refine g_aload_n C (f := 0) dX12_addsEnd_85 1 rfl ?_
  have F13 := fX12_31 hC T0.1 T0.2.1
  refine g_getR C (k := 31) (o := 18) okX12 (by decide) kf_RX12_70 dX12_addsEnd_86 hC T0.1 T0.2.1 rfl rfl ?_
  refine g_iload C (i := 4) dX12_addsEnd_89 4 rfl ?_
  obtain ⟨c14, h⟩ := ck_e h
  refine g_iald C 16 dX12_addsEnd_91 (rg_ hC F13.1) F13.2.1 F13.2.2 c14 ?_
  refine g_iconst C (n := 1) dX12_addsEnd_92 (by decide) ?_
  refine g_icmp_ne C 132 dX12_addsEnd_93 rfl (fun c15 => ?_) (fun c15 => ?_)
  · replace h := if_f h c15
    refine g_sub [1, 2, 3, 0] rfl rfl ?_
    exact tX12_addsEnd_132 C hr hlk hC _ _ _ _ _ T0 h
  · replace h := if_t h c15
    refine g_aload_n C (f := 0) dX12_addsEnd_96 1 rfl ?_
    have F24 := fX12_60 hC T0.1 T0.2.1
    refine g_getR C (k := 60) (o := 41) okX12 (by decide) kf_RX12_139 dX12_addsEnd_97 hC T0.1 T0.2.1 rfl rfl ?_
    refine g_iload C (i := 5) dX12_addsEnd_100 0 rfl ?_
    refine g_aload_n C (f := 0) dX12_addsEnd_102 1 rfl ?_
    refine g_aload_n C (f := 0) dX12_addsEnd_103 1 rfl ?_
    have F25 := fX12_32 hC T0.1 T0.2.1
    refine g_getR C (k := 32) (o := 19) okX12 (by decide) kf_RX12_73 dX12_addsEnd_104 hC T0.1 T0.2.1 rfl rfl ?_
    refine g_iload C (i := 4) dX12_addsEnd_107 4 rfl ?_
    obtain ⟨c26, h⟩ := ck_e h
    refine g_iald C 16 dX12_addsEnd_109 (rg_ hC F25.1) F25.2.1 F25.2.2 c26 ?_
    obtain ⟨q27, eq27, h⟩ := bd_e h
    refine g_cV C [(0, v12 (x0 + 19) x4)] (cX12_readAs_ok l hC T0 eq27) okX12 T0.2.1 (rg_ hC T0.1) km_RX12_436 cv_X12_readAs rfl (by decide) rfl rfl (Nat.le_of_ble_eq_true rfl) dX12_addsEnd_110 ?_
    obtain ⟨c28, h⟩ := ck_e h
    obtain ⟨v29, ev29, h⟩ := lt_e h
    refine g_iast C 272 dX12_addsEnd_113 (rg_ hC F24.1) F24.2.1 F24.2.2 c28 v29 ev29 ?_
    refine g_aload_n C (f := 0) dX12_addsEnd_114 1 rfl ?_
    have F30 := fX12_61 hC T0.1 T0.2.1
    refine g_getR C (k := 61) (o := 42) okX12 (by decide) kf_RX12_142 dX12_addsEnd_115 hC T0.1 T0.2.1 rfl rfl ?_
    refine g_iload C (i := 5) dX12_addsEnd_118 0 rfl ?_
    refine g_aload_n C (f := 0) dX12_addsEnd_120 1 rfl ?_
    refine g_aload_n C (f := 0) dX12_addsEnd_121 1 rfl ?_
    have F31 := fX12_33 hC T0.1 T0.2.1
    refine g_getR C (k := 33) (o := 20) okX12 (by decide) kf_RX12_76 dX12_addsEnd_122 hC T0.1 T0.2.1 rfl rfl ?_
    refine g_iload C (i := 4) dX12_addsEnd_125 4 rfl ?_
    obtain ⟨c32, h⟩ := ck_e h
    refine g_iald C 16 dX12_addsEnd_127 (rg_ hC F31.1) F31.2.1 F31.2.2 c32 ?_
    obtain ⟨q33, eq33, h⟩ := bd_e h
    refine g_cV C [(0, v29 (x0 + 20) x4)] (cX12_readAs_ok l hC T0 eq33) okX12 T0.2.1 (rg_ hC T0.1) km_RX12_436 cv_X12_readAs rfl (by decide) rfl rfl (Nat.le_of_ble_eq_true rfl) dX12_addsEnd_128 ?_
    obtain ⟨c34, h⟩ := ck_e h
    obtain ⟨v35, ev35, h⟩ := lt_e h
    refine g_iast C 272 dX12_addsEnd_131 (rg_ hC F30.1) F30.2.1 F30.2.2 c34 v35 ev35 ?_
    refine g_sub [1, 2, 3, 0] rfl rfl ?_
    exact tX12_addsEnd_132 C hr hlk hC _ _ _ _ _ T0 h
theorem tX12_addsEnd_46 (C : MC_ E p s m c cX12_addsEnd 6 RX12) (hr : meth.sig.returnType = (none : Option FieldType)) (hlk : meth.locks = false) (hC : Cl_ E.2.2.2.2.2 sz) {out : Int × V_} (x0 x1 x2 x3 x4 : Int) (v : V_) (T0 : (E.2.2.2.2.2 x0 ∧ ty_ x0 = 12 ∧ ln_ x0 = 0)) (h : fX12_addsEnd_46 x0 x1 x2 x3 x4 v = some out) : G_ E p l e (rm_ 1 24) s m args below meth c 6 sz (Q_ E below args s sz sz 9 out.1 out.2) 46 [(0, (2, x0)), (1, (0, x1)), (2, (0, x2)), (3, (0, x3)), (4, (0, x4))] [] v sz := by
  rw [fX12_addsEnd_46] at h
  refine g_aload_n C (f := 0) dX12_addsEnd_46 0 rfl ?_
  refine g_iload_n C (f := 1) dX12_addsEnd_47 1 rfl ?_
  refine g_iload_n C (f := 3) dX12_addsEnd_48 3 rfl ?_
  refine g_if_ge C 56 dX12_addsEnd_49 rfl (fun c3 => ?_) (fun c3 => ?_)
  · replace h := if_t h c3
    refine g_iconst C (n := 2) dX12_addsEnd_56 (by decide) ?_
    refine g_sub [0, 2, 3, 4] rfl rfl ?_
    exact tX12_addsEnd_57 C hr hlk hC _ _ _ _ _ _ _ _ T0 T0 h
  · replace h := if_f h c3
    refine g_iconst C (n := 3) dX12_addsEnd_52 (by decide) ?_
    refine g_goto C 57 dX12_addsEnd_53 rfl ?_
    refine g_sub [0, 2, 3, 4] rfl rfl ?_
    exact tX12_addsEnd_57 C hr hlk hC _ _ _ _ _ _ _ _ T0 T0 h
end
theorem cX12_addsEnd_ok (l : Launch) {E : En_} {sz : Int} (hC : Cl_ E.2.2.2.2.2 sz) {x0 x1 x2 x3 : Int} {v : V_} {out : Int × V_} (T0 : (E.2.2.2.2.2 x0 ∧ ty_ x0 = 12 ∧ ln_ x0 = 0)) (h : fX12_addsEnd x0 x1 x2 x3 v = some out) : Met l yX12_addsEnd [.code yX12_addsEnd cX12_addsEnd 6 (none : Option FieldType)] (rm_ 1 24) (Pc_ E sz v [(2, x0), (0, x1), (0, x2), (0, x3)]) (Qc_ E sz 9 out.1 out.2) 0 0 (fun q => E.1 < q) := by
  refine met_G0 RX12 (by decide +kernel) rfl (Nat.le_of_ble_eq_true rfl) ?_
  intro p e s m args below meth c C hr hlk
  rw [fX12_addsEnd] at h
  refine g_bipush C (n := 8) dX12_addsEnd_0 (by decide) ?_
  refine g_aload_n C (f := 0) dX12_addsEnd_2 0 rfl ?_
  refine g_getf C (k := 18) (kd := 0) okX12 (by decide) kf_RX12_272 dX12_addsEnd_3 (rg_ hC T0.1) T0.2.1 rfl ?_
  refine g_imul C dX12_addsEnd_6 ?_
  refine g_iload_n C (f := 2) dX12_addsEnd_7 2 rfl ?_
  refine g_iadd C dX12_addsEnd_8 ?_
  obtain ⟨y1, ey1, h⟩ := lt_e h
  refine g_set C ey1 ?_
  refine g_istore C (i := 4) (ls' := [(4, (0, y1)), (0, (2, x0)), (1, (0, x1)), (2, (0, x2)), (3, (0, x3))]) dX12_addsEnd_9 (by decide) rfl ?_
  refine g_iload_n C (f := 3) dX12_addsEnd_11 4 rfl ?_
  refine g_if_lt C 46 dX12_addsEnd_12 rfl (fun c2 => ?_) (fun c2 => ?_)
  · replace h := if_t h c2
    refine g_sub [1, 2, 3, 4, 0] rfl rfl ?_
    exact tX12_addsEnd_46 C hr hlk hC _ _ _ _ _ _ T0 h
  · replace h := if_f h c2
    refine g_aload_n C (f := 0) dX12_addsEnd_15 1 rfl ?_
    have F36 := fX12_31 hC T0.1 T0.2.1
    refine g_getR C (k := 31) (o := 18) okX12 (by decide) kf_RX12_70 dX12_addsEnd_16 hC T0.1 T0.2.1 rfl rfl ?_
    refine g_iload C (i := 4) dX12_addsEnd_19 0 rfl ?_
    obtain ⟨c37, h⟩ := ck_e h
    refine g_iald C 16 dX12_addsEnd_21 (rg_ hC F36.1) F36.2.1 F36.2.2 c37 ?_
    refine g_if_eq C 45 dX12_addsEnd_22 rfl (fun c38 => ?_) (fun c38 => ?_)
    · replace h := if_t h c38
      cases h
      exact g_vret C dX12_addsEnd_45 hr hlk
    · replace h := if_f h c38
      refine g_aload_n C (f := 0) dX12_addsEnd_25 1 rfl ?_
      refine g_iload_n C (f := 2) dX12_addsEnd_26 3 rfl ?_
      refine g_iconst C (n := 0) dX12_addsEnd_27 (by decide) ?_
      obtain ⟨q39, eq39, h⟩ := bd_e h
      refine g_cV C [(0, x2), (0, 0)] (cX12_wayTo_ok l hC T0 eq39) okX12 T0.2.1 (rg_ hC T0.1) km_RX12_378 cv_X12_wayTo rfl (by decide) rfl rfl (Nat.le_of_ble_eq_true rfl) dX12_addsEnd_28 ?_
      refine g_iload_n C (f := 3) dX12_addsEnd_31 4 rfl ?_
      refine g_icmp_ne C 46 dX12_addsEnd_32 rfl (fun c40 => ?_) (fun c40 => ?_)
      · replace h := if_f h c40
        refine g_sub [1, 2, 3, 4, 0] rfl rfl ?_
        exact tX12_addsEnd_46 C hr hlk hC _ _ _ _ _ _ T0 h
      · replace h := if_t h c40
        refine g_aload_n C (f := 0) dX12_addsEnd_35 1 rfl ?_
        refine g_iload_n C (f := 2) dX12_addsEnd_36 3 rfl ?_
        refine g_iconst C (n := 1) dX12_addsEnd_37 (by decide) ?_
        obtain ⟨q41, eq41, h⟩ := bd_e h
        refine g_cV C [(0, x2), (0, 1)] (cX12_wayTo_ok l hC T0 eq41) okX12 T0.2.1 (rg_ hC T0.1) km_RX12_378 cv_X12_wayTo rfl (by decide) rfl rfl (Nat.le_of_ble_eq_true rfl) dX12_addsEnd_38 ?_
        refine g_iload_n C (f := 3) dX12_addsEnd_41 4 rfl ?_
        refine g_icmp_ne C 46 dX12_addsEnd_42 rfl (fun c42 => ?_) (fun c42 => ?_)
        · replace h := if_f h c42
          refine g_sub [1, 2, 3, 4, 0] rfl rfl ?_
          exact tX12_addsEnd_46 C hr hlk hC _ _ _ _ _ _ T0 h
        · replace h := if_t h c42
          cases h
          exact g_vret C dX12_addsEnd_45 hr hlk
theorem dX12_isWanted_0 : decode cX12_isWanted 0 = .ok (.bipush 34, 2) := by decide +kernel
theorem dX12_isWanted_2 : decode cX12_isWanted 2 = .ok (.iload_n 1, 1) := by decide +kernel
theorem dX12_isWanted_3 : decode cX12_isWanted 3 = .ok (.imul, 1) := by decide +kernel
theorem dX12_isWanted_4 : decode cX12_isWanted 4 = .ok (.istore_n 3, 1) := by decide +kernel
theorem dX12_isWanted_5 : decode cX12_isWanted 5 = .ok (.iload_n 3, 1) := by decide +kernel
theorem dX12_isWanted_6 : decode cX12_isWanted 6 = .ok (.bipush 34, 2) := by decide +kernel
theorem dX12_isWanted_8 : decode cX12_isWanted 8 = .ok (.iload_n 1, 1) := by decide +kernel
theorem dX12_isWanted_9 : decode cX12_isWanted 9 = .ok (.imul, 1) := by decide +kernel
theorem dX12_isWanted_10 : decode cX12_isWanted 10 = .ok (.aload_n 0, 1) := by decide +kernel
theorem dX12_isWanted_11 : decode cX12_isWanted 11 = .ok (.getfield 118, 3) := by decide +kernel
theorem dX12_isWanted_14 : decode cX12_isWanted 14 = .ok (.iload_n 1, 1) := by decide +kernel
theorem dX12_isWanted_15 : decode cX12_isWanted 15 = .ok (.iaload, 1) := by decide +kernel
theorem dX12_isWanted_16 : decode cX12_isWanted 16 = .ok (.iadd, 1) := by decide +kernel
theorem dX12_isWanted_17 : decode cX12_isWanted 17 = .ok (.if_icmp .ge 50, 3) := by decide +kernel
theorem dX12_isWanted_20 : decode cX12_isWanted 20 = .ok (.aload_n 0, 1) := by decide +kernel
theorem dX12_isWanted_21 : decode cX12_isWanted 21 = .ok (.getfield 121, 3) := by decide +kernel
theorem dX12_isWanted_24 : decode cX12_isWanted 24 = .ok (.iload_n 3, 1) := by decide +kernel
theorem dX12_isWanted_25 : decode cX12_isWanted 25 = .ok (.iaload, 1) := by decide +kernel
theorem dX12_isWanted_26 : decode cX12_isWanted 26 = .ok (.iconst 2, 1) := by decide +kernel
theorem dX12_isWanted_27 : decode cX12_isWanted 27 = .ok (.if_icmp .ne 34, 3) := by decide +kernel
theorem dX12_isWanted_30 : decode cX12_isWanted 30 = .ok (.aload_n 0, 1) := by decide +kernel
theorem dX12_isWanted_31 : decode cX12_isWanted 31 = .ok (.getfield 103, 3) := by decide +kernel
theorem dX12_isWanted_34 : decode cX12_isWanted 34 = .ok (.aload_n 0, 1) := by decide +kernel
theorem dX12_isWanted_35 : decode cX12_isWanted 35 = .ok (.aload_n 0, 1) := by decide +kernel
theorem dX12_isWanted_36 : decode cX12_isWanted 36 = .ok (.getfield 124, 3) := by decide +kernel
theorem dX12_isWanted_39 : decode cX12_isWanted 39 = .ok (.iload_n 3, 1) := by decide +kernel
theorem dX12_isWanted_40 : decode cX12_isWanted 40 = .ok (.iaload, 1) := by decide +kernel
theorem dX12_isWanted_41 : decode cX12_isWanted 41 = .ok (.aload_n 0, 1) := by decide +kernel
theorem dX12_isWanted_42 : decode cX12_isWanted 42 = .ok (.getfield 145, 3) := by decide +kernel
theorem dX12_isWanted_45 : decode cX12_isWanted 45 = .ok (.iload_n 3, 1) := by decide +kernel
theorem dX12_isWanted_46 : decode cX12_isWanted 46 = .ok (.iaload, 1) := by decide +kernel
theorem dX12_isWanted_47 : decode cX12_isWanted 47 = .ok (.invokevirtual 378, 3) := by decide +kernel
theorem dX12_isWanted_50 : decode cX12_isWanted 50 = .ok (.iaload, 1) := by decide +kernel
theorem dX12_isWanted_51 : decode cX12_isWanted 51 = .ok (.iload_n 2, 1) := by decide +kernel
theorem dX12_isWanted_52 : decode cX12_isWanted 52 = .ok (.ishr, 1) := by decide +kernel
theorem dX12_isWanted_53 : decode cX12_isWanted 53 = .ok (.iconst 1, 1) := by decide +kernel
theorem dX12_isWanted_54 : decode cX12_isWanted 54 = .ok (.iand, 1) := by decide +kernel
theorem dX12_isWanted_55 : decode cX12_isWanted 55 = .ok (.iconst 1, 1) := by decide +kernel
theorem dX12_isWanted_56 : decode cX12_isWanted 56 = .ok (.if_icmp .ne 5, 3) := by decide +kernel
theorem dX12_isWanted_59 : decode cX12_isWanted 59 = .ok (.iconst 1, 1) := by decide +kernel
theorem dX12_isWanted_60 : decode cX12_isWanted 60 = .ok (.ireturn, 1) := by decide +kernel
theorem dX12_isWanted_61 : decode cX12_isWanted 61 = .ok (.iinc 3 1, 3) := by decide +kernel
theorem dX12_isWanted_64 : decode cX12_isWanted 64 = .ok (.goto (-59), 3) := by decide +kernel
theorem dX12_isWanted_67 : decode cX12_isWanted 67 = .ok (.iconst 0, 1) := by decide +kernel
theorem dX12_isWanted_68 : decode cX12_isWanted 68 = .ok (.ireturn, 1) := by decide +kernel
def fX12_isWanted_5 : Nat → Int → Int → Int → Int → V_ → Option (Int × V_)
  | 0, _, _, _, _, _ => none
  | n + 1, x0, x1, x2, x3, v =>
    ck_ (0 ≤ x1 ∧ x1 < 8) (
    if (wr_ ((wr_ (34 * x1)) + (v (x0 + 34) x1))) ≤ x3 then (
      some (0, v))
    else (
      ck_ (0 ≤ x3 ∧ x3 < 272) (
      if (v (x0 + 35) x3) = 2 then (
        ck_ (0 ≤ x3 ∧ x3 < 272) (
        ck_ (0 ≤ x3 ∧ x3 < 272) (
        bd_ (fX12_wayTo x0 (v (x0 + 36) x3) (v (x0 + 43) x3) v) fun q14 =>
        ck_ (0 ≤ q14.1 ∧ q14.1 < 8) (
        if (bA_ (sR_ (q14.2 (x0 + 29) q14.1) x2) 1) = 1 then (
          some (1, q14.2))
        else (
          lt_ (wr_ (x3 + 1)) fun y17 =>
          (fX12_isWanted_5 n) x0 x1 x2 y17 q14.2)))))
      else (
        lt_ (wr_ (x3 + 1)) fun y8 =>
        (fX12_isWanted_5 n) x0 x1 x2 y8 v))))
def fX12_isWanted (x0 x1 x2 : Int) (v : V_) : Option (Int × V_) :=
  lt_ (wr_ (34 * x1)) fun y1 =>
  fX12_isWanted_5 fu_ x0 x1 x2 y1 v
section
variable {E : En_} {p : Program} {l : Launch} {e : Env} {s : State} {m : MethodId} {args : Array Value} {below : List Frame} {meth : Method} {c : Code} {sz : Int}
theorem tX12_isWanted_5 (C : MC_ E p s m c cX12_isWanted 4 RX12) (hr : meth.sig.returnType = (some FieldType.boolean)) (hlk : meth.locks = false) (hC : Cl_ E.2.2.2.2.2 sz) {out : Int × V_} : ∀ (n : Nat) (x0 x1 x2 x3 : Int) (v : V_), (E.2.2.2.2.2 x0 ∧ ty_ x0 = 12 ∧ ln_ x0 = 0) → fX12_isWanted_5 n x0 x1 x2 x3 v = some out → G_ E p l e (rm_ 1 22) s m args below meth c 4 sz (Q_ E below args s sz sz 0 out.1 out.2) 5 [(0, (2, x0)), (1, (0, x1)), (2, (0, x2)), (3, (0, x3))] [] v sz := by
  intro n
  induction n with
  | zero =>
    intro x0 x1 x2 x3 v T0 h
    cases h
  | succ n H_5 =>
    intro x0 x1 x2 x3 v T0 h
    rw [fX12_isWanted_5] at h
    refine g_iload_n C (f := 3) dX12_isWanted_5 3 rfl ?_
    refine g_bipush C (n := 34) dX12_isWanted_6 (by decide) ?_
    refine g_iload_n C (f := 1) dX12_isWanted_8 1 rfl ?_
    refine g_imul C dX12_isWanted_9 ?_
    refine g_aload_n C (f := 0) dX12_isWanted_10 0 rfl ?_
    have F2 := fX12_53 hC T0.1 T0.2.1
    refine g_getR C (k := 53) (o := 34) okX12 (by decide) kf_RX12_118 dX12_isWanted_11 hC T0.1 T0.2.1 rfl rfl ?_
    refine g_iload_n C (f := 1) dX12_isWanted_14 1 rfl ?_
    obtain ⟨c3, h⟩ := ck_e h
    refine g_iald C 8 dX12_isWanted_15 (rg_ hC F2.1) F2.2.1 F2.2.2 c3 ?_
    refine g_iadd C dX12_isWanted_16 ?_
    refine g_icmp_ge C 67 dX12_isWanted_17 rfl (fun c4 => ?_) (fun c4 => ?_)
    · replace h := if_t h c4
      refine g_iconst C (n := 0) dX12_isWanted_67 (by decide) ?_
      cases h
      exact g_zret C dX12_isWanted_68 hr hlk (Or.inl rfl)
    · replace h := if_f h c4
      refine g_aload_n C (f := 0) dX12_isWanted_20 0 rfl ?_
      have F5 := fX12_54 hC T0.1 T0.2.1
      refine g_getR C (k := 54) (o := 35) okX12 (by decide) kf_RX12_121 dX12_isWanted_21 hC T0.1 T0.2.1 rfl rfl ?_
      refine g_iload_n C (f := 3) dX12_isWanted_24 3 rfl ?_
      obtain ⟨c6, h⟩ := ck_e h
      refine g_iald C 272 dX12_isWanted_25 (rg_ hC F5.1) F5.2.1 F5.2.2 c6 ?_
      refine g_iconst C (n := 2) dX12_isWanted_26 (by decide) ?_
      refine g_icmp_ne C 61 dX12_isWanted_27 rfl (fun c7 => ?_) (fun c7 => ?_)
      · replace h := if_f h c7
        obtain ⟨y8, ey8, h⟩ := lt_e h
        refine g_iincx C (ls' := [(3, (0, y8)), (0, (2, x0)), (1, (0, x1)), (2, (0, x2))]) ey8 dX12_isWanted_61 3 rfl (by decide) (by decide) rfl ?_
        refine g_goto C 5 dX12_isWanted_64 rfl ?_
        refine g_sub [1, 2, 3, 0] rfl rfl ?_
        exact H_5 _ _ _ _ _ T0 h
      · replace h := if_t h c7
        refine g_aload_n C (f := 0) dX12_isWanted_30 0 rfl ?_
        have F9 := fX12_47 hC T0.1 T0.2.1
        refine g_getR C (k := 47) (o := 29) okX12 (by decide) kf_RX12_103 dX12_isWanted_31 hC T0.1 T0.2.1 rfl rfl ?_
        refine g_aload_n C (f := 0) dX12_isWanted_34 0 rfl ?_
        refine g_aload_n C (f := 0) dX12_isWanted_35 0 rfl ?_
        have F10 := fX12_55 hC T0.1 T0.2.1
        refine g_getR C (k := 55) (o := 36) okX12 (by decide) kf_RX12_124 dX12_isWanted_36 hC T0.1 T0.2.1 rfl rfl ?_
        refine g_iload_n C (f := 3) dX12_isWanted_39 3 rfl ?_
        obtain ⟨c11, h⟩ := ck_e h
        refine g_iald C 272 dX12_isWanted_40 (rg_ hC F10.1) F10.2.1 F10.2.2 c11 ?_
        refine g_aload_n C (f := 0) dX12_isWanted_41 0 rfl ?_
        have F12 := fX12_62 hC T0.1 T0.2.1
        refine g_getR C (k := 62) (o := 43) okX12 (by decide) kf_RX12_145 dX12_isWanted_42 hC T0.1 T0.2.1 rfl rfl ?_
        refine g_iload_n C (f := 3) dX12_isWanted_45 3 rfl ?_
        obtain ⟨c13, h⟩ := ck_e h
        refine g_iald C 272 dX12_isWanted_46 (rg_ hC F12.1) F12.2.1 F12.2.2 c13 ?_
        obtain ⟨q14, eq14, h⟩ := bd_e h
        refine g_cV C [(0, v (x0 + 36) x3), (0, v (x0 + 43) x3)] (cX12_wayTo_ok l hC T0 eq14) okX12 T0.2.1 (rg_ hC T0.1) km_RX12_378 cv_X12_wayTo rfl (by decide) rfl rfl (Nat.le_of_ble_eq_true rfl) dX12_isWanted_47 ?_
        obtain ⟨c15, h⟩ := ck_e h
        refine g_iald C 8 dX12_isWanted_50 (rg_ hC F9.1) F9.2.1 F9.2.2 c15 ?_
        refine g_iload_n C (f := 2) dX12_isWanted_51 2 rfl ?_
        refine g_ishr C dX12_isWanted_52 ?_
        refine g_iconst C (n := 1) dX12_isWanted_53 (by decide) ?_
        refine g_iand C dX12_isWanted_54 ?_
        refine g_iconst C (n := 1) dX12_isWanted_55 (by decide) ?_
        refine g_icmp_ne C 61 dX12_isWanted_56 rfl (fun c16 => ?_) (fun c16 => ?_)
        · replace h := if_f h c16
          obtain ⟨y17, ey17, h⟩ := lt_e h
          refine g_iincx C (ls' := [(3, (0, y17)), (0, (2, x0)), (1, (0, x1)), (2, (0, x2))]) ey17 dX12_isWanted_61 3 rfl (by decide) (by decide) rfl ?_
          refine g_goto C 5 dX12_isWanted_64 rfl ?_
          refine g_sub [1, 2, 3, 0] rfl rfl ?_
          exact H_5 _ _ _ _ _ T0 h
        · replace h := if_t h c16
          refine g_iconst C (n := 1) dX12_isWanted_59 (by decide) ?_
          cases h
          exact g_zret C dX12_isWanted_60 hr hlk (Or.inr rfl)
end
theorem cX12_isWanted_ok (l : Launch) {E : En_} {sz : Int} (hC : Cl_ E.2.2.2.2.2 sz) {x0 x1 x2 : Int} {v : V_} {out : Int × V_} (T0 : (E.2.2.2.2.2 x0 ∧ ty_ x0 = 12 ∧ ln_ x0 = 0)) (h : fX12_isWanted x0 x1 x2 v = some out) : Met l yX12_isWanted [.code yX12_isWanted cX12_isWanted 4 (some FieldType.boolean)] (rm_ 1 22) (Pc_ E sz v [(2, x0), (0, x1), (0, x2)]) (Qc_ E sz 0 out.1 out.2) 0 0 (fun q => E.1 < q) := by
  refine met_G0 RX12 (by decide +kernel) rfl (Nat.le_of_ble_eq_true rfl) ?_
  intro p e s m args below meth c C hr hlk
  rw [fX12_isWanted] at h
  refine g_bipush C (n := 34) dX12_isWanted_0 (by decide) ?_
  refine g_iload_n C (f := 1) dX12_isWanted_2 1 rfl ?_
  refine g_imul C dX12_isWanted_3 ?_
  obtain ⟨y1, ey1, h⟩ := lt_e h
  refine g_set C ey1 ?_
  refine g_istore_n C (f := 3) (ls' := [(3, (0, y1)), (0, (2, x0)), (1, (0, x1)), (2, (0, x2))]) dX12_isWanted_4 (by decide) rfl ?_
  refine g_sub [1, 2, 3, 0] rfl rfl ?_
  exact tX12_isWanted_5 C hr hlk hC _ _ _ _ _ _ T0 h
theorem dX12_kindOf_0 : decode cX12_kindOf 0 = .ok (.aload_n 0, 1) := by decide +kernel
theorem dX12_kindOf_1 : decode cX12_kindOf 1 = .ok (.getfield 55, 3) := by decide +kernel
theorem dX12_kindOf_4 : decode cX12_kindOf 4 = .ok (.iload_n 1, 1) := by decide +kernel
theorem dX12_kindOf_5 : decode cX12_kindOf 5 = .ok (.iaload, 1) := by decide +kernel
theorem dX12_kindOf_6 : decode cX12_kindOf 6 = .ok (.ifCond .le 7, 3) := by decide +kernel
theorem dX12_kindOf_9 : decode cX12_kindOf 9 = .ok (.iconst 2, 1) := by decide +kernel
theorem dX12_kindOf_10 : decode cX12_kindOf 10 = .ok (.goto 18, 3) := by decide +kernel
theorem dX12_kindOf_13 : decode cX12_kindOf 13 = .ok (.aload_n 0, 1) := by decide +kernel
theorem dX12_kindOf_14 : decode cX12_kindOf 14 = .ok (.getfield 58, 3) := by decide +kernel
theorem dX12_kindOf_17 : decode cX12_kindOf 17 = .ok (.iload_n 1, 1) := by decide +kernel
theorem dX12_kindOf_18 : decode cX12_kindOf 18 = .ok (.iaload, 1) := by decide +kernel
theorem dX12_kindOf_19 : decode cX12_kindOf 19 = .ok (.iconst 1, 1) := by decide +kernel
theorem dX12_kindOf_20 : decode cX12_kindOf 20 = .ok (.if_icmp .le 7, 3) := by decide +kernel
theorem dX12_kindOf_23 : decode cX12_kindOf 23 = .ok (.iconst 1, 1) := by decide +kernel
theorem dX12_kindOf_24 : decode cX12_kindOf 24 = .ok (.goto 4, 3) := by decide +kernel
theorem dX12_kindOf_27 : decode cX12_kindOf 27 = .ok (.iconst 0, 1) := by decide +kernel
theorem dX12_kindOf_28 : decode cX12_kindOf 28 = .ok (.ireturn, 1) := by decide +kernel
def fX12_kindOf (x0 x1 : Int) (v : V_) : Option (Int × V_) :=
  ck_ (0 ≤ x1 ∧ x1 < 96) (
  if (v (x0 + 13) x1) ≤ 0 then (
    ck_ (0 ≤ x1 ∧ x1 < 96) (
    if (v (x0 + 14) x1) ≤ 1 then (
      some (0, v))
    else (
      some (1, v))))
  else (
    some (2, v)))
theorem cX12_kindOf_ok (l : Launch) {E : En_} {sz : Int} (hC : Cl_ E.2.2.2.2.2 sz) {x0 x1 : Int} {v : V_} {out : Int × V_} (T0 : (E.2.2.2.2.2 x0 ∧ ty_ x0 = 12 ∧ ln_ x0 = 0)) (h : fX12_kindOf x0 x1 v = some out) : Met l yX12_kindOf [.code yX12_kindOf cX12_kindOf 2 (some FieldType.int)] (rm_ 0 0) (Pc_ E sz v [(2, x0), (0, x1)]) (Qc_ E sz 0 out.1 out.2) 0 0 (fun q => E.1 < q) := by
  refine met_G0 RX12 (by decide +kernel) rfl (Nat.le_of_ble_eq_true rfl) ?_
  intro p e s m args below meth c C hr hlk
  rw [fX12_kindOf] at h
  refine g_aload_n C (f := 0) dX12_kindOf_0 0 rfl ?_
  have F1 := fX12_26 hC T0.1 T0.2.1
  refine g_getR C (k := 26) (o := 13) okX12 (by decide) kf_RX12_55 dX12_kindOf_1 hC T0.1 T0.2.1 rfl rfl ?_
  refine g_iload_n C (f := 1) dX12_kindOf_4 1 rfl ?_
  obtain ⟨c2, h⟩ := ck_e h
  refine g_iald C 96 dX12_kindOf_5 (rg_ hC F1.1) F1.2.1 F1.2.2 c2 ?_
  refine g_if_le C 13 dX12_kindOf_6 rfl (fun c3 => ?_) (fun c3 => ?_)
  · replace h := if_t h c3
    refine g_aload_n C (f := 0) dX12_kindOf_13 0 rfl ?_
    have F4 := fX12_27 hC T0.1 T0.2.1
    refine g_getR C (k := 27) (o := 14) okX12 (by decide) kf_RX12_58 dX12_kindOf_14 hC T0.1 T0.2.1 rfl rfl ?_
    refine g_iload_n C (f := 1) dX12_kindOf_17 1 rfl ?_
    obtain ⟨c5, h⟩ := ck_e h
    refine g_iald C 96 dX12_kindOf_18 (rg_ hC F4.1) F4.2.1 F4.2.2 c5 ?_
    refine g_iconst C (n := 1) dX12_kindOf_19 (by decide) ?_
    refine g_icmp_le C 27 dX12_kindOf_20 rfl (fun c6 => ?_) (fun c6 => ?_)
    · replace h := if_t h c6
      refine g_iconst C (n := 0) dX12_kindOf_27 (by decide) ?_
      cases h
      exact g_iret C dX12_kindOf_28 hr hlk
    · replace h := if_f h c6
      refine g_iconst C (n := 1) dX12_kindOf_23 (by decide) ?_
      refine g_goto C 28 dX12_kindOf_24 rfl ?_
      cases h
      exact g_iret C dX12_kindOf_28 hr hlk
  · replace h := if_f h c3
    refine g_iconst C (n := 2) dX12_kindOf_9 (by decide) ?_
    refine g_goto C 28 dX12_kindOf_10 rfl ?_
    cases h
    exact g_iret C dX12_kindOf_28 hr hlk
