theorem dX3_parseEnd_0 : decode cX3_parseEnd 0 = .ok (.aload_n 0, 1) := by decide +kernel
theorem dX3_parseEnd_1 : decode cX3_parseEnd 1 = .ok (.bipush 10, 2) := by decide +kernel
theorem dX3_parseEnd_3 : decode cX3_parseEnd 3 = .ok (.invokevirtual 61, 3) := by decide +kernel
theorem dX3_parseEnd_6 : decode cX3_parseEnd 6 = .ok (.ifCond .eq 10, 3) := by decide +kernel
theorem dX3_parseEnd_9 : decode cX3_parseEnd 9 = .ok (.aload_n 0, 1) := by decide +kernel
theorem dX3_parseEnd_10 : decode cX3_parseEnd 10 = .ok (.invokevirtual 85, 3) := by decide +kernel
theorem dX3_parseEnd_13 : decode cX3_parseEnd 13 = .ok (.goto 122, 3) := by decide +kernel
theorem dX3_parseEnd_16 : decode cX3_parseEnd 16 = .ok (.aload_n 0, 1) := by decide +kernel
theorem dX3_parseEnd_17 : decode cX3_parseEnd 17 = .ok (.bipush 7, 2) := by decide +kernel
theorem dX3_parseEnd_19 : decode cX3_parseEnd 19 = .ok (.invokevirtual 61, 3) := by decide +kernel
theorem dX3_parseEnd_22 : decode cX3_parseEnd 22 = .ok (.ifCond .eq 34, 3) := by decide +kernel
theorem dX3_parseEnd_25 : decode cX3_parseEnd 25 = .ok (.aload_n 0, 1) := by decide +kernel
theorem dX3_parseEnd_26 : decode cX3_parseEnd 26 = .ok (.invokevirtual 85, 3) := by decide +kernel
theorem dX3_parseEnd_29 : decode cX3_parseEnd 29 = .ok (.aload_n 0, 1) := by decide +kernel
theorem dX3_parseEnd_30 : decode cX3_parseEnd 30 = .ok (.getfield 29, 3) := by decide +kernel
theorem dX3_parseEnd_33 : decode cX3_parseEnd 33 = .ok (.getfield 151, 3) := by decide +kernel
theorem dX3_parseEnd_36 : decode cX3_parseEnd 36 = .ok (.iload_n 1, 1) := by decide +kernel
theorem dX3_parseEnd_37 : decode cX3_parseEnd 37 = .ok (.aaload, 1) := by decide +kernel
theorem dX3_parseEnd_38 : decode cX3_parseEnd 38 = .ok (.bipush 7, 2) := by decide +kernel
theorem dX3_parseEnd_40 : decode cX3_parseEnd 40 = .ok (.bipush (-2), 2) := by decide +kernel
theorem dX3_parseEnd_42 : decode cX3_parseEnd 42 = .ok (.iconst 0, 1) := by decide +kernel
theorem dX3_parseEnd_43 : decode cX3_parseEnd 43 = .ok (.iconst 0, 1) := by decide +kernel
theorem dX3_parseEnd_44 : decode cX3_parseEnd 44 = .ok (.invokevirtual 155, 3) := by decide +kernel
theorem dX3_parseEnd_47 : decode cX3_parseEnd 47 = .ok (.aload_n 0, 1) := by decide +kernel
theorem dX3_parseEnd_48 : decode cX3_parseEnd 48 = .ok (.iload_n 1, 1) := by decide +kernel
theorem dX3_parseEnd_49 : decode cX3_parseEnd 49 = .ok (.iconst 0, 1) := by decide +kernel
theorem dX3_parseEnd_50 : decode cX3_parseEnd 50 = .ok (.invokevirtual 161, 3) := by decide +kernel
theorem dX3_parseEnd_53 : decode cX3_parseEnd 53 = .ok (.goto 82, 3) := by decide +kernel
theorem dX3_parseEnd_56 : decode cX3_parseEnd 56 = .ok (.aload_n 0, 1) := by decide +kernel
theorem dX3_parseEnd_57 : decode cX3_parseEnd 57 = .ok (.bipush 8, 2) := by decide +kernel
theorem dX3_parseEnd_59 : decode cX3_parseEnd 59 = .ok (.invokevirtual 61, 3) := by decide +kernel
theorem dX3_parseEnd_62 : decode cX3_parseEnd 62 = .ok (.ifCond .eq 68, 3) := by decide +kernel
theorem dX3_parseEnd_65 : decode cX3_parseEnd 65 = .ok (.aload_n 0, 1) := by decide +kernel
theorem dX3_parseEnd_66 : decode cX3_parseEnd 66 = .ok (.invokevirtual 85, 3) := by decide +kernel
theorem dX3_parseEnd_69 : decode cX3_parseEnd 69 = .ok (.aload_n 0, 1) := by decide +kernel
theorem dX3_parseEnd_70 : decode cX3_parseEnd 70 = .ok (.invokevirtual 145, 3) := by decide +kernel
theorem dX3_parseEnd_73 : decode cX3_parseEnd 73 = .ok (.istore_n 2, 1) := by decide +kernel
theorem dX3_parseEnd_74 : decode cX3_parseEnd 74 = .ok (.aload_n 0, 1) := by decide +kernel
theorem dX3_parseEnd_75 : decode cX3_parseEnd 75 = .ok (.bipush 60, 2) := by decide +kernel
theorem dX3_parseEnd_77 : decode cX3_parseEnd 77 = .ok (.invokevirtual 94, 3) := by decide +kernel
theorem dX3_parseEnd_80 : decode cX3_parseEnd 80 = .ok (.aload_n 0, 1) := by decide +kernel
theorem dX3_parseEnd_81 : decode cX3_parseEnd 81 = .ok (.getfield 29, 3) := by decide +kernel
theorem dX3_parseEnd_84 : decode cX3_parseEnd 84 = .ok (.getfield 151, 3) := by decide +kernel
theorem dX3_parseEnd_87 : decode cX3_parseEnd 87 = .ok (.iload_n 1, 1) := by decide +kernel
theorem dX3_parseEnd_88 : decode cX3_parseEnd 88 = .ok (.aaload, 1) := by decide +kernel
theorem dX3_parseEnd_89 : decode cX3_parseEnd 89 = .ok (.bipush 8, 2) := by decide +kernel
theorem dX3_parseEnd_91 : decode cX3_parseEnd 91 = .ok (.bipush (-2), 2) := by decide +kernel
theorem dX3_parseEnd_93 : decode cX3_parseEnd 93 = .ok (.iload_n 2, 1) := by decide +kernel
theorem dX3_parseEnd_94 : decode cX3_parseEnd 94 = .ok (.iconst (-1), 1) := by decide +kernel
theorem dX3_parseEnd_95 : decode cX3_parseEnd 95 = .ok (.ixor, 1) := by decide +kernel
theorem dX3_parseEnd_96 : decode cX3_parseEnd 96 = .ok (.aload_n 0, 1) := by decide +kernel
theorem dX3_parseEnd_97 : decode cX3_parseEnd 97 = .ok (.invokevirtual 138, 3) := by decide +kernel
theorem dX3_parseEnd_100 : decode cX3_parseEnd 100 = .ok (.invokevirtual 155, 3) := by decide +kernel
theorem dX3_parseEnd_103 : decode cX3_parseEnd 103 = .ok (.aload_n 0, 1) := by decide +kernel
theorem dX3_parseEnd_104 : decode cX3_parseEnd 104 = .ok (.bipush 7, 2) := by decide +kernel
theorem dX3_parseEnd_106 : decode cX3_parseEnd 106 = .ok (.invokevirtual 94, 3) := by decide +kernel
theorem dX3_parseEnd_109 : decode cX3_parseEnd 109 = .ok (.aload_n 0, 1) := by decide +kernel
theorem dX3_parseEnd_110 : decode cX3_parseEnd 110 = .ok (.iload_n 1, 1) := by decide +kernel
theorem dX3_parseEnd_111 : decode cX3_parseEnd 111 = .ok (.iconst 0, 1) := by decide +kernel
theorem dX3_parseEnd_112 : decode cX3_parseEnd 112 = .ok (.invokevirtual 161, 3) := by decide +kernel
theorem dX3_parseEnd_115 : decode cX3_parseEnd 115 = .ok (.aload_n 0, 1) := by decide +kernel
theorem dX3_parseEnd_116 : decode cX3_parseEnd 116 = .ok (.bipush 9, 2) := by decide +kernel
theorem dX3_parseEnd_118 : decode cX3_parseEnd 118 = .ok (.invokevirtual 94, 3) := by decide +kernel
theorem dX3_parseEnd_121 : decode cX3_parseEnd 121 = .ok (.aload_n 0, 1) := by decide +kernel
theorem dX3_parseEnd_122 : decode cX3_parseEnd 122 = .ok (.iload_n 1, 1) := by decide +kernel
theorem dX3_parseEnd_123 : decode cX3_parseEnd 123 = .ok (.iconst 1, 1) := by decide +kernel
theorem dX3_parseEnd_124 : decode cX3_parseEnd 124 = .ok (.invokevirtual 161, 3) := by decide +kernel
theorem dX3_parseEnd_127 : decode cX3_parseEnd 127 = .ok (.goto 8, 3) := by decide +kernel
theorem dX3_parseEnd_130 : decode cX3_parseEnd 130 = .ok (.aload_n 0, 1) := by decide +kernel
theorem dX3_parseEnd_131 : decode cX3_parseEnd 131 = .ok (.iconst 1, 1) := by decide +kernel
theorem dX3_parseEnd_132 : decode cX3_parseEnd 132 = .ok (.invokevirtual 71, 3) := by decide +kernel
theorem dX3_parseEnd_135 : decode cX3_parseEnd 135 = .ok (.aload_n 0, 1) := by decide +kernel
theorem dX3_parseEnd_136 : decode cX3_parseEnd 136 = .ok (.bipush 59, 2) := by decide +kernel
theorem dX3_parseEnd_138 : decode cX3_parseEnd 138 = .ok (.invokevirtual 94, 3) := by decide +kernel
theorem dX3_parseEnd_141 : decode cX3_parseEnd 141 = .ok (.return_, 1) := by decide +kernel
def fX3_parseEnd (x0 x1 : Int) (v : V_) : Option (Int × V_) :=
  bd_ (fX3_sees x0 10 v) fun q1 =>
  if q1.1 = 0 then (
    bd_ (fX3_sees x0 7 q1.2) fun q3 =>
    if q3.1 = 0 then (
      bd_ (fX3_sees x0 8 q3.2) fun q5 =>
      if q5.1 = 0 then (
        bd_ (fX3_fail x0 1 q5.2) fun q7 =>
        bd_ (fX3_expect x0 59 q7.2) fun q8 =>
        some (0, q8.2))
      else (
        bd_ (fX3_take x0 q5.2) fun q9 =>
        bd_ (fX3_takeRegister x0 q9.2) fun q10 =>
        bd_ (fX3_expect x0 60 q10.2) fun q11 =>
        ck_ (q11.2 x0 4 = PA_ ∨ q11.2 x0 4 = PB_) (
        ck_ (0 ≤ x1 ∧ x1 < 8) (
        bd_ (fX3_takeValue x0 q11.2) fun q17 =>
        bd_ (fX8_tell (((q11.2 x0 4) + 3) + (53 + 1 * x1)) 8 (-2) (bX_ q10.1 (-1)) q17.1 q17.2) fun q18 =>
        bd_ (fX3_expect x0 7 q18.2) fun q19 =>
        bd_ (fX3_tellWay x0 x1 0 q19.2) fun q20 =>
        bd_ (fX3_expect x0 9 q20.2) fun q21 =>
        bd_ (fX3_tellWay x0 x1 1 q21.2) fun q22 =>
        bd_ (fX3_expect x0 59 q22.2) fun q23 =>
        some (0, q23.2)))))
    else (
      bd_ (fX3_take x0 q3.2) fun q24 =>
      ck_ (q24.2 x0 4 = PA_ ∨ q24.2 x0 4 = PB_) (
      ck_ (0 ≤ x1 ∧ x1 < 8) (
      bd_ (fX8_tell (((q24.2 x0 4) + 3) + (53 + 1 * x1)) 7 (-2) 0 0 q24.2) fun q30 =>
      bd_ (fX3_tellWay x0 x1 0 q30.2) fun q31 =>
      bd_ (fX3_expect x0 59 q31.2) fun q32 =>
      some (0, q32.2)))))
  else (
    bd_ (fX3_take x0 q1.2) fun q33 =>
    bd_ (fX3_expect x0 59 q33.2) fun q34 =>
    some (0, q34.2))
theorem cX3_parseEnd_ok (l : Launch) {E : En_} {sz : Int} (hC : Cl_ E.2.2.2.2.2 sz) (hG : Pg_ E.2.2.2.2.2) {x0 x1 : Int} {v : V_} {out : Int × V_} (T0 : (E.2.2.2.2.2 x0 ∧ ty_ x0 = 3 ∧ ln_ x0 = 0)) (h : fX3_parseEnd x0 x1 v = some out) : Met l yX3_parseEnd [.code yX3_parseEnd cX3_parseEnd 3 (none : Option FieldType)] (rm_ 4 85) (Pc_ E sz v [(2, x0), (0, x1)]) (Qc_ E sz 9 out.1 out.2) 0 0 (fun q => E.1 < q) := by
  refine met_G0 RX3 (by decide +kernel) rfl (Nat.le_of_ble_eq_true rfl) ?_
  intro p e s m args below meth c C hr hlk
  rw [fX3_parseEnd] at h
  refine g_aload_n C (f := 0) dX3_parseEnd_0 0 rfl ?_
  refine g_bipush C (n := 10) dX3_parseEnd_1 (by decide) ?_
  obtain ⟨q1, eq1, h⟩ := bd_e h
  refine g_cV C [(0, 10)] (cX3_sees_ok l hC hG T0 eq1) okX3 T0.2.1 (rg_ hC T0.1) km_RX3_61 cv_X3_sees rfl (by decide) rfl rfl (Nat.le_of_ble_eq_true rfl) dX3_parseEnd_3 ?_
  refine g_if_eq C 16 dX3_parseEnd_6 rfl (fun c2 => ?_) (fun c2 => ?_)
  · replace h := if_t h c2
    refine g_aload_n C (f := 0) dX3_parseEnd_16 0 rfl ?_
    refine g_bipush C (n := 7) dX3_parseEnd_17 (by decide) ?_
    obtain ⟨q3, eq3, h⟩ := bd_e h
    refine g_cV C [(0, 7)] (cX3_sees_ok l hC hG T0 eq3) okX3 T0.2.1 (rg_ hC T0.1) km_RX3_61 cv_X3_sees rfl (by decide) rfl rfl (Nat.le_of_ble_eq_true rfl) dX3_parseEnd_19 ?_
    refine g_if_eq C 56 dX3_parseEnd_22 rfl (fun c4 => ?_) (fun c4 => ?_)
    · replace h := if_t h c4
      refine g_aload_n C (f := 0) dX3_parseEnd_56 0 rfl ?_
      refine g_bipush C (n := 8) dX3_parseEnd_57 (by decide) ?_
      obtain ⟨q5, eq5, h⟩ := bd_e h
      refine g_cV C [(0, 8)] (cX3_sees_ok l hC hG T0 eq5) okX3 T0.2.1 (rg_ hC T0.1) km_RX3_61 cv_X3_sees rfl (by decide) rfl rfl (Nat.le_of_ble_eq_true rfl) dX3_parseEnd_59 ?_
      refine g_if_eq C 130 dX3_parseEnd_62 rfl (fun c6 => ?_) (fun c6 => ?_)
      · replace h := if_t h c6
        refine g_aload_n C (f := 0) dX3_parseEnd_130 0 rfl ?_
        refine g_iconst C (n := 1) dX3_parseEnd_131 (by decide) ?_
        obtain ⟨q7, eq7, h⟩ := bd_e h
        refine g_cV C [(0, 1)] (cX3_fail_ok l hC hG T0 eq7) okX3 T0.2.1 (rg_ hC T0.1) km_RX3_71 cv_X3_fail rfl (by decide) rfl rfl (Nat.le_of_ble_eq_true rfl) dX3_parseEnd_132 ?_
        refine g_aload_n C (f := 0) dX3_parseEnd_135 0 rfl ?_
        refine g_bipush C (n := 59) dX3_parseEnd_136 (by decide) ?_
        obtain ⟨q8, eq8, h⟩ := bd_e h
        refine g_cV C [(0, 59)] (cX3_expect_ok l hC hG T0 eq8) okX3 T0.2.1 (rg_ hC T0.1) km_RX3_94 cv_X3_expect rfl (by decide) rfl rfl (Nat.le_of_ble_eq_true rfl) dX3_parseEnd_138 ?_
        cases h
        exact g_vret C dX3_parseEnd_141 hr hlk
      · replace h := if_f h c6
        refine g_aload_n C (f := 0) dX3_parseEnd_65 0 rfl ?_
        obtain ⟨q9, eq9, h⟩ := bd_e h
        refine g_cV C [] (cX3_take_ok l hC hG T0 eq9) okX3 T0.2.1 (rg_ hC T0.1) km_RX3_85 cv_X3_take rfl (by decide) rfl rfl (Nat.le_of_ble_eq_true rfl) dX3_parseEnd_66 ?_
        refine g_aload_n C (f := 0) dX3_parseEnd_69 0 rfl ?_
        obtain ⟨q10, eq10, h⟩ := bd_e h
        refine g_cV C [] (cX3_takeRegister_ok l hC hG T0 eq10) okX3 T0.2.1 (rg_ hC T0.1) km_RX3_145 cv_X3_takeRegister rfl (by decide) rfl rfl (Nat.le_of_ble_eq_true rfl) dX3_parseEnd_70 ?_
        refine g_istore_n C (f := 2) (ls' := [(2, (0, q10.1)), (0, (2, x0)), (1, (0, x1))]) dX3_parseEnd_73 (by decide) rfl ?_
        refine g_aload_n C (f := 0) dX3_parseEnd_74 1 rfl ?_
        refine g_bipush C (n := 60) dX3_parseEnd_75 (by decide) ?_
        obtain ⟨q11, eq11, h⟩ := bd_e h
        refine g_cV C [(0, 60)] (cX3_expect_ok l hC hG T0 eq11) okX3 T0.2.1 (rg_ hC T0.1) km_RX3_94 cv_X3_expect rfl (by decide) rfl rfl (Nat.le_of_ble_eq_true rfl) dX3_parseEnd_77 ?_
        refine g_aload_n C (f := 0) dX3_parseEnd_80 1 rfl ?_
        obtain ⟨c12, h⟩ := ck_e h
        refine g_getf C (k := 4) (kd := 2) okX3 (by decide) kf_RX3_29 dX3_parseEnd_81 (rg_ hC T0.1) T0.2.1 rfl ?_
        have F13 := pgF_ hG c12
        have F14 := fX5_3 hC F13.1 F13.2.1
        refine g_getR C (k := 3) (o := 3) okX5 (by decide) kf_RX3_151 dX3_parseEnd_84 hC F13.1 F13.2.1 rfl rfl ?_
        refine g_iload_n C (f := 1) dX3_parseEnd_87 2 rfl ?_
        obtain ⟨c15, h⟩ := ck_e h
        have F16 := fE_ends (i := x1) hC F14.1 F14.2.1 F14.2.2 c15
        refine g_aald C 25 8 53 1 dX3_parseEnd_88 hC F14.1 F14.2.1 F14.2.2 c15 (by decide) oA_ends ?_
        refine g_bipush C (n := 8) dX3_parseEnd_89 (by decide) ?_
        refine g_bipush C (n := (-2)) dX3_parseEnd_91 (by decide) ?_
        refine g_iload_n C (f := 2) dX3_parseEnd_93 0 rfl ?_
        refine g_iconst C (n := (-1)) dX3_parseEnd_94 (by decide) ?_
        refine g_ixor C dX3_parseEnd_95 ?_
        refine g_aload_n C (f := 0) dX3_parseEnd_96 1 rfl ?_
        obtain ⟨q17, eq17, h⟩ := bd_e h
        refine g_cV C [] (cX3_takeValue_ok l hC hG T0 eq17) okX3 T0.2.1 (rg_ hC T0.1) km_RX3_138 cv_X3_takeValue rfl (by decide) rfl rfl (Nat.le_of_ble_eq_true rfl) dX3_parseEnd_97 ?_
        obtain ⟨q18, eq18, h⟩ := bd_e h
        refine g_cV C [(0, 8), (0, (-2)), (0, bX_ q10.1 (-1)), (0, q17.1)] (cX8_tell_ok l hC F16 eq18) okX8 F16.2.1 (rg_ hC F16.1) km_RX3_155 cv_X8_tell rfl (by decide) rfl rfl (Nat.le_of_ble_eq_true rfl) dX3_parseEnd_100 ?_
        refine g_aload_n C (f := 0) dX3_parseEnd_103 1 rfl ?_
        refine g_bipush C (n := 7) dX3_parseEnd_104 (by decide) ?_
        obtain ⟨q19, eq19, h⟩ := bd_e h
        refine g_cV C [(0, 7)] (cX3_expect_ok l hC hG T0 eq19) okX3 T0.2.1 (rg_ hC T0.1) km_RX3_94 cv_X3_expect rfl (by decide) rfl rfl (Nat.le_of_ble_eq_true rfl) dX3_parseEnd_106 ?_
        refine g_aload_n C (f := 0) dX3_parseEnd_109 1 rfl ?_
        refine g_iload_n C (f := 1) dX3_parseEnd_110 2 rfl ?_
        refine g_iconst C (n := 0) dX3_parseEnd_111 (by decide) ?_
        obtain ⟨q20, eq20, h⟩ := bd_e h
        refine g_cV C [(0, x1), (0, 0)] (cX3_tellWay_ok l hC hG T0 eq20) okX3 T0.2.1 (rg_ hC T0.1) km_RX3_161 cv_X3_tellWay rfl (by decide) rfl rfl (Nat.le_of_ble_eq_true rfl) dX3_parseEnd_112 ?_
        refine g_aload_n C (f := 0) dX3_parseEnd_115 1 rfl ?_
        refine g_bipush C (n := 9) dX3_parseEnd_116 (by decide) ?_
        obtain ⟨q21, eq21, h⟩ := bd_e h
        refine g_cV C [(0, 9)] (cX3_expect_ok l hC hG T0 eq21) okX3 T0.2.1 (rg_ hC T0.1) km_RX3_94 cv_X3_expect rfl (by decide) rfl rfl (Nat.le_of_ble_eq_true rfl) dX3_parseEnd_118 ?_
        refine g_aload_n C (f := 0) dX3_parseEnd_121 1 rfl ?_
        refine g_iload_n C (f := 1) dX3_parseEnd_122 2 rfl ?_
        refine g_iconst C (n := 1) dX3_parseEnd_123 (by decide) ?_
        obtain ⟨q22, eq22, h⟩ := bd_e h
        refine g_cV C [(0, x1), (0, 1)] (cX3_tellWay_ok l hC hG T0 eq22) okX3 T0.2.1 (rg_ hC T0.1) km_RX3_161 cv_X3_tellWay rfl (by decide) rfl rfl (Nat.le_of_ble_eq_true rfl) dX3_parseEnd_124 ?_
        refine g_goto C 135 dX3_parseEnd_127 rfl ?_
        refine g_aload_n C (f := 0) dX3_parseEnd_135 1 rfl ?_
        refine g_bipush C (n := 59) dX3_parseEnd_136 (by decide) ?_
        obtain ⟨q23, eq23, h⟩ := bd_e h
        refine g_cV C [(0, 59)] (cX3_expect_ok l hC hG T0 eq23) okX3 T0.2.1 (rg_ hC T0.1) km_RX3_94 cv_X3_expect rfl (by decide) rfl rfl (Nat.le_of_ble_eq_true rfl) dX3_parseEnd_138 ?_
        cases h
        exact g_vret C dX3_parseEnd_141 hr hlk
    · replace h := if_f h c4
      refine g_aload_n C (f := 0) dX3_parseEnd_25 0 rfl ?_
      obtain ⟨q24, eq24, h⟩ := bd_e h
      refine g_cV C [] (cX3_take_ok l hC hG T0 eq24) okX3 T0.2.1 (rg_ hC T0.1) km_RX3_85 cv_X3_take rfl (by decide) rfl rfl (Nat.le_of_ble_eq_true rfl) dX3_parseEnd_26 ?_
      refine g_aload_n C (f := 0) dX3_parseEnd_29 0 rfl ?_
      obtain ⟨c25, h⟩ := ck_e h
      refine g_getf C (k := 4) (kd := 2) okX3 (by decide) kf_RX3_29 dX3_parseEnd_30 (rg_ hC T0.1) T0.2.1 rfl ?_
      have F26 := pgF_ hG c25
      have F27 := fX5_3 hC F26.1 F26.2.1
      refine g_getR C (k := 3) (o := 3) okX5 (by decide) kf_RX3_151 dX3_parseEnd_33 hC F26.1 F26.2.1 rfl rfl ?_
      refine g_iload_n C (f := 1) dX3_parseEnd_36 1 rfl ?_
      obtain ⟨c28, h⟩ := ck_e h
      have F29 := fE_ends (i := x1) hC F27.1 F27.2.1 F27.2.2 c28
      refine g_aald C 25 8 53 1 dX3_parseEnd_37 hC F27.1 F27.2.1 F27.2.2 c28 (by decide) oA_ends ?_
      refine g_bipush C (n := 7) dX3_parseEnd_38 (by decide) ?_
      refine g_bipush C (n := (-2)) dX3_parseEnd_40 (by decide) ?_
      refine g_iconst C (n := 0) dX3_parseEnd_42 (by decide) ?_
      refine g_iconst C (n := 0) dX3_parseEnd_43 (by decide) ?_
      obtain ⟨q30, eq30, h⟩ := bd_e h
      refine g_cV C [(0, 7), (0, (-2)), (0, 0), (0, 0)] (cX8_tell_ok l hC F29 eq30) okX8 F29.2.1 (rg_ hC F29.1) km_RX3_155 cv_X8_tell rfl (by decide) rfl rfl (Nat.le_of_ble_eq_true rfl) dX3_parseEnd_44 ?_
      refine g_aload_n C (f := 0) dX3_parseEnd_47 0 rfl ?_
      refine g_iload_n C (f := 1) dX3_parseEnd_48 1 rfl ?_
      refine g_iconst C (n := 0) dX3_parseEnd_49 (by decide) ?_
      obtain ⟨q31, eq31, h⟩ := bd_e h
      refine g_cV C [(0, x1), (0, 0)] (cX3_tellWay_ok l hC hG T0 eq31) okX3 T0.2.1 (rg_ hC T0.1) km_RX3_161 cv_X3_tellWay rfl (by decide) rfl rfl (Nat.le_of_ble_eq_true rfl) dX3_parseEnd_50 ?_
      refine g_goto C 135 dX3_parseEnd_53 rfl ?_
      refine g_aload_n C (f := 0) dX3_parseEnd_135 0 rfl ?_
      refine g_bipush C (n := 59) dX3_parseEnd_136 (by decide) ?_
      obtain ⟨q32, eq32, h⟩ := bd_e h
      refine g_cV C [(0, 59)] (cX3_expect_ok l hC hG T0 eq32) okX3 T0.2.1 (rg_ hC T0.1) km_RX3_94 cv_X3_expect rfl (by decide) rfl rfl (Nat.le_of_ble_eq_true rfl) dX3_parseEnd_138 ?_
      cases h
      exact g_vret C dX3_parseEnd_141 hr hlk
  · replace h := if_f h c2
    refine g_aload_n C (f := 0) dX3_parseEnd_9 0 rfl ?_
    obtain ⟨q33, eq33, h⟩ := bd_e h
    refine g_cV C [] (cX3_take_ok l hC hG T0 eq33) okX3 T0.2.1 (rg_ hC T0.1) km_RX3_85 cv_X3_take rfl (by decide) rfl rfl (Nat.le_of_ble_eq_true rfl) dX3_parseEnd_10 ?_
    refine g_goto C 135 dX3_parseEnd_13 rfl ?_
    refine g_aload_n C (f := 0) dX3_parseEnd_135 0 rfl ?_
    refine g_bipush C (n := 59) dX3_parseEnd_136 (by decide) ?_
    obtain ⟨q34, eq34, h⟩ := bd_e h
    refine g_cV C [(0, 59)] (cX3_expect_ok l hC hG T0 eq34) okX3 T0.2.1 (rg_ hC T0.1) km_RX3_94 cv_X3_expect rfl (by decide) rfl rfl (Nat.le_of_ble_eq_true rfl) dX3_parseEnd_138 ?_
    cases h
    exact g_vret C dX3_parseEnd_141 hr hlk
theorem dX3_takeOp_0 : decode cX3_takeOp 0 = .ok (.aload_n 0, 1) := by decide +kernel
theorem dX3_takeOp_1 : decode cX3_takeOp 1 = .ok (.getfield 12, 3) := by decide +kernel
theorem dX3_takeOp_4 : decode cX3_takeOp 4 = .ok (.aload_n 0, 1) := by decide +kernel
theorem dX3_takeOp_5 : decode cX3_takeOp 5 = .ok (.getfield 44, 3) := by decide +kernel
theorem dX3_takeOp_8 : decode cX3_takeOp 8 = .ok (.invokevirtual 88, 3) := by decide +kernel
theorem dX3_takeOp_11 : decode cX3_takeOp 11 = .ok (.istore_n 1, 1) := by decide +kernel
theorem dX3_takeOp_12 : decode cX3_takeOp 12 = .ok (.iload_n 1, 1) := by decide +kernel
theorem dX3_takeOp_13 : decode cX3_takeOp 13 = .ok (.tableswitch 63 42 47 #[51, 39, 63, 45, 63, 57], 39) := by decide +kernel
theorem dX3_takeOp_52 : decode cX3_takeOp 52 = .ok (.aload_n 0, 1) := by decide +kernel
theorem dX3_takeOp_53 : decode cX3_takeOp 53 = .ok (.invokevirtual 85, 3) := by decide +kernel
theorem dX3_takeOp_56 : decode cX3_takeOp 56 = .ok (.iconst 0, 1) := by decide +kernel
theorem dX3_takeOp_57 : decode cX3_takeOp 57 = .ok (.ireturn, 1) := by decide +kernel
theorem dX3_takeOp_58 : decode cX3_takeOp 58 = .ok (.aload_n 0, 1) := by decide +kernel
theorem dX3_takeOp_59 : decode cX3_takeOp 59 = .ok (.invokevirtual 85, 3) := by decide +kernel
theorem dX3_takeOp_62 : decode cX3_takeOp 62 = .ok (.iconst 1, 1) := by decide +kernel
theorem dX3_takeOp_63 : decode cX3_takeOp 63 = .ok (.ireturn, 1) := by decide +kernel
theorem dX3_takeOp_64 : decode cX3_takeOp 64 = .ok (.aload_n 0, 1) := by decide +kernel
theorem dX3_takeOp_65 : decode cX3_takeOp 65 = .ok (.invokevirtual 85, 3) := by decide +kernel
theorem dX3_takeOp_68 : decode cX3_takeOp 68 = .ok (.iconst 2, 1) := by decide +kernel
theorem dX3_takeOp_69 : decode cX3_takeOp 69 = .ok (.ireturn, 1) := by decide +kernel
theorem dX3_takeOp_70 : decode cX3_takeOp 70 = .ok (.aload_n 0, 1) := by decide +kernel
theorem dX3_takeOp_71 : decode cX3_takeOp 71 = .ok (.invokevirtual 85, 3) := by decide +kernel
theorem dX3_takeOp_74 : decode cX3_takeOp 74 = .ok (.iconst 3, 1) := by decide +kernel
theorem dX3_takeOp_75 : decode cX3_takeOp 75 = .ok (.ireturn, 1) := by decide +kernel
theorem dX3_takeOp_76 : decode cX3_takeOp 76 = .ok (.aload_n 0, 1) := by decide +kernel
theorem dX3_takeOp_77 : decode cX3_takeOp 77 = .ok (.iconst 1, 1) := by decide +kernel
theorem dX3_takeOp_78 : decode cX3_takeOp 78 = .ok (.invokevirtual 71, 3) := by decide +kernel
theorem dX3_takeOp_81 : decode cX3_takeOp 81 = .ok (.iconst 0, 1) := by decide +kernel
theorem dX3_takeOp_82 : decode cX3_takeOp 82 = .ok (.ireturn, 1) := by decide +kernel
def fX3_takeOp (x0 : Int) (v : V_) : Option (Int × V_) :=
  bd_ (fX9_sortAt (x0 + 1) (v x0 5) v) fun q2 =>
  if q2.1 = 42 then (
    bd_ (fX3_take x0 q2.2) fun q4 =>
    some (2, q4.2))
  else (
  if q2.1 = 43 then (
    bd_ (fX3_take x0 q2.2) fun q6 =>
    some (0, q6.2))
  else (
  if q2.1 = 45 then (
    bd_ (fX3_take x0 q2.2) fun q8 =>
    some (1, q8.2))
  else (
  if q2.1 = 47 then (
    bd_ (fX3_take x0 q2.2) fun q10 =>
    some (3, q10.2))
  else (
  bd_ (fX3_fail x0 1 q2.2) fun q11 =>
  some (0, q11.2)))))
theorem cX3_takeOp_ok (l : Launch) {E : En_} {sz : Int} (hC : Cl_ E.2.2.2.2.2 sz) (hG : Pg_ E.2.2.2.2.2) {x0 : Int} {v : V_} {out : Int × V_} (T0 : (E.2.2.2.2.2 x0 ∧ ty_ x0 = 3 ∧ ln_ x0 = 0)) (h : fX3_takeOp x0 v = some out) : Met l yX3_takeOp [.code yX3_takeOp cX3_takeOp 2 (some FieldType.int)] (rm_ 2 41) (Pc_ E sz v [(2, x0)]) (Qc_ E sz 0 out.1 out.2) 0 0 (fun q => E.1 < q) := by
  refine met_G0 RX3 (by decide +kernel) rfl (Nat.le_of_ble_eq_true rfl) ?_
  intro p e s m args below meth c C hr hlk
  rw [fX3_takeOp] at h
  refine g_aload_n C (f := 0) dX3_takeOp_0 0 rfl ?_
  have F1 := fX3_0 hC T0.1 T0.2.1
  refine g_getR C (k := 0) (o := 1) okX3 (by decide) kf_RX3_12 dX3_takeOp_1 hC T0.1 T0.2.1 rfl rfl ?_
  refine g_aload_n C (f := 0) dX3_takeOp_4 0 rfl ?_
  refine g_getf C (k := 5) (kd := 0) okX3 (by decide) kf_RX3_44 dX3_takeOp_5 (rg_ hC T0.1) T0.2.1 rfl ?_
  obtain ⟨q2, eq2, h⟩ := bd_e h
  refine g_cV C [(0, v x0 5)] (cX9_sortAt_ok l hC F1 eq2) okX9 F1.2.1 (rg_ hC F1.1) km_RX3_88 cv_X9_sortAt rfl (by decide) rfl rfl (Nat.le_of_ble_eq_true rfl) dX3_takeOp_8 ?_
  refine g_istore_n C (f := 1) (ls' := [(1, (0, q2.1)), (0, (2, x0))]) dX3_takeOp_11 (by decide) rfl ?_
  refine g_iload_n C (f := 1) dX3_takeOp_12 0 rfl ?_
  by_cases c3 : q2.1 = 42
  · replace h := if_t h c3
    refine g_tin C 64 dX3_takeOp_13 42 c3 (by decide) (by decide) rfl rfl ?_
    refine g_aload_n C (f := 0) dX3_takeOp_64 1 rfl ?_
    obtain ⟨q4, eq4, h⟩ := bd_e h
    refine g_cV C [] (cX3_take_ok l hC hG T0 eq4) okX3 T0.2.1 (rg_ hC T0.1) km_RX3_85 cv_X3_take rfl (by decide) rfl rfl (Nat.le_of_ble_eq_true rfl) dX3_takeOp_65 ?_
    refine g_iconst C (n := 2) dX3_takeOp_68 (by decide) ?_
    cases h
    exact g_iret C dX3_takeOp_69 hr hlk
  replace h := if_f h c3
  by_cases c5 : q2.1 = 43
  · replace h := if_t h c5
    refine g_tin C 52 dX3_takeOp_13 43 c5 (by decide) (by decide) rfl rfl ?_
    refine g_aload_n C (f := 0) dX3_takeOp_52 1 rfl ?_
    obtain ⟨q6, eq6, h⟩ := bd_e h
    refine g_cV C [] (cX3_take_ok l hC hG T0 eq6) okX3 T0.2.1 (rg_ hC T0.1) km_RX3_85 cv_X3_take rfl (by decide) rfl rfl (Nat.le_of_ble_eq_true rfl) dX3_takeOp_53 ?_
    refine g_iconst C (n := 0) dX3_takeOp_56 (by decide) ?_
    cases h
    exact g_iret C dX3_takeOp_57 hr hlk
  replace h := if_f h c5
  by_cases c7 : q2.1 = 45
  · replace h := if_t h c7
    refine g_tin C 58 dX3_takeOp_13 45 c7 (by decide) (by decide) rfl rfl ?_
    refine g_aload_n C (f := 0) dX3_takeOp_58 1 rfl ?_
    obtain ⟨q8, eq8, h⟩ := bd_e h
    refine g_cV C [] (cX3_take_ok l hC hG T0 eq8) okX3 T0.2.1 (rg_ hC T0.1) km_RX3_85 cv_X3_take rfl (by decide) rfl rfl (Nat.le_of_ble_eq_true rfl) dX3_takeOp_59 ?_
    refine g_iconst C (n := 1) dX3_takeOp_62 (by decide) ?_
    cases h
    exact g_iret C dX3_takeOp_63 hr hlk
  replace h := if_f h c7
  by_cases c9 : q2.1 = 47
  · replace h := if_t h c9
    refine g_tin C 70 dX3_takeOp_13 47 c9 (by decide) (by decide) rfl rfl ?_
    refine g_aload_n C (f := 0) dX3_takeOp_70 1 rfl ?_
    obtain ⟨q10, eq10, h⟩ := bd_e h
    refine g_cV C [] (cX3_take_ok l hC hG T0 eq10) okX3 T0.2.1 (rg_ hC T0.1) km_RX3_85 cv_X3_take rfl (by decide) rfl rfl (Nat.le_of_ble_eq_true rfl) dX3_takeOp_71 ?_
    refine g_iconst C (n := 3) dX3_takeOp_74 (by decide) ?_
    cases h
    exact g_iret C dX3_takeOp_75 hr hlk
  replace h := if_f h c9
  refine g_tdef C (x := q2.1) 76 dX3_takeOp_13 (by intro a ha h1 h2; have hh : a = 44 ∨ a = 46 := (by omega); rcases hh with rfl | rfl <;> rfl) rfl ?_
  refine g_aload_n C (f := 0) dX3_takeOp_76 1 rfl ?_
  refine g_iconst C (n := 1) dX3_takeOp_77 (by decide) ?_
  obtain ⟨q11, eq11, h⟩ := bd_e h
  refine g_cV C [(0, 1)] (cX3_fail_ok l hC hG T0 eq11) okX3 T0.2.1 (rg_ hC T0.1) km_RX3_71 cv_X3_fail rfl (by decide) rfl rfl (Nat.le_of_ble_eq_true rfl) dX3_takeOp_78 ?_
  refine g_iconst C (n := 0) dX3_takeOp_81 (by decide) ?_
  cases h
  exact g_iret C dX3_takeOp_82 hr hlk
theorem dX5_addLine_0 : decode cX5_addLine 0 = .ok (.aload_n 0, 1) := by decide +kernel
theorem dX5_addLine_1 : decode cX5_addLine 1 = .ok (.getfield 9, 3) := by decide +kernel
theorem dX5_addLine_4 : decode cX5_addLine 4 = .ok (.iload_n 1, 1) := by decide +kernel
theorem dX5_addLine_5 : decode cX5_addLine 5 = .ok (.iaload, 1) := by decide +kernel
theorem dX5_addLine_6 : decode cX5_addLine 6 = .ok (.bipush 6, 2) := by decide +kernel
theorem dX5_addLine_8 : decode cX5_addLine 8 = .ok (.if_icmp .ge 38, 3) := by decide +kernel
theorem dX5_addLine_11 : decode cX5_addLine 11 = .ok (.aload_n 0, 1) := by decide +kernel
theorem dX5_addLine_12 : decode cX5_addLine 12 = .ok (.getfield 17, 3) := by decide +kernel
theorem dX5_addLine_15 : decode cX5_addLine 15 = .ok (.iload_n 1, 1) := by decide +kernel
theorem dX5_addLine_16 : decode cX5_addLine 16 = .ok (.bipush 6, 2) := by decide +kernel
theorem dX5_addLine_18 : decode cX5_addLine 18 = .ok (.imul, 1) := by decide +kernel
theorem dX5_addLine_19 : decode cX5_addLine 19 = .ok (.aload_n 0, 1) := by decide +kernel
theorem dX5_addLine_20 : decode cX5_addLine 20 = .ok (.getfield 9, 3) := by decide +kernel
theorem dX5_addLine_23 : decode cX5_addLine 23 = .ok (.iload_n 1, 1) := by decide +kernel
theorem dX5_addLine_24 : decode cX5_addLine 24 = .ok (.iaload, 1) := by decide +kernel
theorem dX5_addLine_25 : decode cX5_addLine 25 = .ok (.iadd, 1) := by decide +kernel
theorem dX5_addLine_26 : decode cX5_addLine 26 = .ok (.aaload, 1) := by decide +kernel
theorem dX5_addLine_27 : decode cX5_addLine 27 = .ok (.iload_n 2, 1) := by decide +kernel
theorem dX5_addLine_28 : decode cX5_addLine 28 = .ok (.iload_n 3, 1) := by decide +kernel
theorem dX5_addLine_29 : decode cX5_addLine 29 = .ok (.iload 4, 2) := by decide +kernel
theorem dX5_addLine_31 : decode cX5_addLine 31 = .ok (.iload 5, 2) := by decide +kernel
theorem dX5_addLine_33 : decode cX5_addLine 33 = .ok (.invokevirtual 50, 3) := by decide +kernel
theorem dX5_addLine_36 : decode cX5_addLine 36 = .ok (.aload_n 0, 1) := by decide +kernel
theorem dX5_addLine_37 : decode cX5_addLine 37 = .ok (.getfield 9, 3) := by decide +kernel
theorem dX5_addLine_40 : decode cX5_addLine 40 = .ok (.iload_n 1, 1) := by decide +kernel
theorem dX5_addLine_41 : decode cX5_addLine 41 = .ok (.dup2, 1) := by decide +kernel
theorem dX5_addLine_42 : decode cX5_addLine 42 = .ok (.iaload, 1) := by decide +kernel
theorem dX5_addLine_43 : decode cX5_addLine 43 = .ok (.iconst 1, 1) := by decide +kernel
theorem dX5_addLine_44 : decode cX5_addLine 44 = .ok (.iadd, 1) := by decide +kernel
theorem dX5_addLine_45 : decode cX5_addLine 45 = .ok (.iastore, 1) := by decide +kernel
theorem dX5_addLine_46 : decode cX5_addLine 46 = .ok (.return_, 1) := by decide +kernel
def fX5_addLine (x0 x1 x2 x3 x4 x5 : Int) (v : V_) : Option (Int × V_) :=
  ck_ (0 ≤ x1 ∧ x1 < 8) (
  if 6 ≤ (v (x0 + 1) x1) then (
    some (0, v))
  else (
    ck_ (0 ≤ x1 ∧ x1 < 8) (
    ck_ (0 ≤ wr_ ((wr_ (x1 * 6)) + (v (x0 + 1) x1)) ∧ wr_ ((wr_ (x1 * 6)) + (v (x0 + 1) x1)) < 48) (
    bd_ (fX8_tell ((x0 + 2) + (6 + 1 * (wr_ ((wr_ (x1 * 6)) + (v (x0 + 1) x1))))) x2 x3 x4 x5 v) fun q9 =>
    ck_ (0 ≤ x1 ∧ x1 < 8) (
    ck_ (0 ≤ x1 ∧ x1 < 8) (
    lt_ (up_ q9.2 (x0 + 1) x1 (wr_ ((q9.2 (x0 + 1) x1) + 1))) fun v13 =>
    some (0, v13)))))))
theorem cX5_addLine_ok (l : Launch) {E : En_} {sz : Int} (hC : Cl_ E.2.2.2.2.2 sz) {x0 x1 x2 x3 x4 x5 : Int} {v : V_} {out : Int × V_} (T0 : (E.2.2.2.2.2 x0 ∧ ty_ x0 = 5 ∧ ln_ x0 = 0)) (h : fX5_addLine x0 x1 x2 x3 x4 x5 v = some out) : Met l yX5_addLine [.code yX5_addLine cX5_addLine 6 (none : Option FieldType)] (rm_ 1 24) (Pc_ E sz v [(2, x0), (0, x1), (0, x2), (0, x3), (0, x4), (0, x5)]) (Qc_ E sz 9 out.1 out.2) 0 0 (fun q => E.1 < q) := by
  refine met_G0 RX5 (by decide +kernel) rfl (Nat.le_of_ble_eq_true rfl) ?_
  intro p e s m args below meth c C hr hlk
  rw [fX5_addLine] at h
  refine g_aload_n C (f := 0) dX5_addLine_0 0 rfl ?_
  have F1 := fX5_1 hC T0.1 T0.2.1
  refine g_getR C (k := 1) (o := 1) okX5 (by decide) kf_RX5_9 dX5_addLine_1 hC T0.1 T0.2.1 rfl rfl ?_
  refine g_iload_n C (f := 1) dX5_addLine_4 1 rfl ?_
  obtain ⟨c2, h⟩ := ck_e h
  refine g_iald C 8 dX5_addLine_5 (rg_ hC F1.1) F1.2.1 F1.2.2 c2 ?_
  refine g_bipush C (n := 6) dX5_addLine_6 (by decide) ?_
  refine g_icmp_ge C 46 dX5_addLine_8 rfl (fun c3 => ?_) (fun c3 => ?_)
  · replace h := if_t h c3
    cases h
    exact g_vret C dX5_addLine_46 hr hlk
  · replace h := if_f h c3
    refine g_aload_n C (f := 0) dX5_addLine_11 0 rfl ?_
    have F4 := fX5_2 hC T0.1 T0.2.1
    refine g_getR C (k := 2) (o := 2) okX5 (by decide) kf_RX5_17 dX5_addLine_12 hC T0.1 T0.2.1 rfl rfl ?_
    refine g_iload_n C (f := 1) dX5_addLine_15 1 rfl ?_
    refine g_bipush C (n := 6) dX5_addLine_16 (by decide) ?_
    refine g_imul C dX5_addLine_18 ?_
    refine g_aload_n C (f := 0) dX5_addLine_19 0 rfl ?_
    have F5 := fX5_1 hC T0.1 T0.2.1
    refine g_getR C (k := 1) (o := 1) okX5 (by decide) kf_RX5_9 dX5_addLine_20 hC T0.1 T0.2.1 rfl rfl ?_
    refine g_iload_n C (f := 1) dX5_addLine_23 1 rfl ?_
    obtain ⟨c6, h⟩ := ck_e h
    refine g_iald C 8 dX5_addLine_24 (rg_ hC F5.1) F5.2.1 F5.2.2 c6 ?_
    refine g_iadd C dX5_addLine_25 ?_
    obtain ⟨c7, h⟩ := ck_e h
    have F8 := fE_lines (i := wr_ ((wr_ (x1 * 6)) + (v (x0 + 1) x1))) hC F4.1 F4.2.1 F4.2.2 c7
    refine g_aald C 25 48 6 1 dX5_addLine_26 hC F4.1 F4.2.1 F4.2.2 c7 (by decide) oA_lines ?_
    refine g_iload_n C (f := 2) dX5_addLine_27 2 rfl ?_
    refine g_iload_n C (f := 3) dX5_addLine_28 3 rfl ?_
    refine g_iload C (i := 4) dX5_addLine_29 4 rfl ?_
    refine g_iload C (i := 5) dX5_addLine_31 5 rfl ?_
    obtain ⟨q9, eq9, h⟩ := bd_e h
    refine g_cV C [(0, x2), (0, x3), (0, x4), (0, x5)] (cX8_tell_ok l hC F8 eq9) okX8 F8.2.1 (rg_ hC F8.1) km_RX5_50 cv_X8_tell rfl (by decide) rfl rfl (Nat.le_of_ble_eq_true rfl) dX5_addLine_33 ?_
    refine g_aload_n C (f := 0) dX5_addLine_36 0 rfl ?_
    have F10 := fX5_1 hC T0.1 T0.2.1
    refine g_getR C (k := 1) (o := 1) okX5 (by decide) kf_RX5_9 dX5_addLine_37 hC T0.1 T0.2.1 rfl rfl ?_
    refine g_iload_n C (f := 1) dX5_addLine_40 1 rfl ?_
    refine g_dup2 C (Nat.ne_of_beq_eq_false rfl) (Nat.ne_of_beq_eq_false rfl) dX5_addLine_41 ?_
    obtain ⟨c11, h⟩ := ck_e h
    refine g_iald C 8 dX5_addLine_42 (rg_ hC F10.1) F10.2.1 F10.2.2 c11 ?_
    refine g_iconst C (n := 1) dX5_addLine_43 (by decide) ?_
    refine g_iadd C dX5_addLine_44 ?_
    obtain ⟨c12, h⟩ := ck_e h
    obtain ⟨v13, ev13, h⟩ := lt_e h
    refine g_iast C 8 dX5_addLine_45 (rg_ hC F10.1) F10.2.1 F10.2.2 c12 v13 ev13 ?_
    cases h
    exact g_vret C dX5_addLine_46 hr hlk
theorem dX3_parseLine_0 : decode cX3_parseLine 0 = .ok (.aload_n 0, 1) := by decide +kernel
theorem dX3_parseLine_1 : decode cX3_parseLine 1 = .ok (.bipush 6, 2) := by decide +kernel
theorem dX3_parseLine_3 : decode cX3_parseLine 3 = .ok (.invokevirtual 61, 3) := by decide +kernel
theorem dX3_parseLine_6 : decode cX3_parseLine 6 = .ok (.ifCond .eq 39, 3) := by decide +kernel
theorem dX3_parseLine_9 : decode cX3_parseLine 9 = .ok (.aload_n 0, 1) := by decide +kernel
theorem dX3_parseLine_10 : decode cX3_parseLine 10 = .ok (.invokevirtual 85, 3) := by decide +kernel
theorem dX3_parseLine_13 : decode cX3_parseLine 13 = .ok (.aload_n 0, 1) := by decide +kernel
theorem dX3_parseLine_14 : decode cX3_parseLine 14 = .ok (.invokevirtual 138, 3) := by decide +kernel
theorem dX3_parseLine_17 : decode cX3_parseLine 17 = .ok (.istore_n 2, 1) := by decide +kernel
theorem dX3_parseLine_18 : decode cX3_parseLine 18 = .ok (.aload_n 0, 1) := by decide +kernel
theorem dX3_parseLine_19 : decode cX3_parseLine 19 = .ok (.bipush 61, 2) := by decide +kernel
theorem dX3_parseLine_21 : decode cX3_parseLine 21 = .ok (.invokevirtual 94, 3) := by decide +kernel
theorem dX3_parseLine_24 : decode cX3_parseLine 24 = .ok (.aload_n 0, 1) := by decide +kernel
theorem dX3_parseLine_25 : decode cX3_parseLine 25 = .ok (.invokevirtual 138, 3) := by decide +kernel
theorem dX3_parseLine_28 : decode cX3_parseLine 28 = .ok (.istore_n 3, 1) := by decide +kernel
theorem dX3_parseLine_29 : decode cX3_parseLine 29 = .ok (.aload_n 0, 1) := by decide +kernel
theorem dX3_parseLine_30 : decode cX3_parseLine 30 = .ok (.getfield 29, 3) := by decide +kernel
theorem dX3_parseLine_33 : decode cX3_parseLine 33 = .ok (.iload_n 1, 1) := by decide +kernel
theorem dX3_parseLine_34 : decode cX3_parseLine 34 = .ok (.iconst 5, 1) := by decide +kernel
theorem dX3_parseLine_35 : decode cX3_parseLine 35 = .ok (.bipush (-2), 2) := by decide +kernel
theorem dX3_parseLine_37 : decode cX3_parseLine 37 = .ok (.iload_n 2, 1) := by decide +kernel
theorem dX3_parseLine_38 : decode cX3_parseLine 38 = .ok (.iload_n 3, 1) := by decide +kernel
theorem dX3_parseLine_39 : decode cX3_parseLine 39 = .ok (.invokevirtual 141, 3) := by decide +kernel
theorem dX3_parseLine_42 : decode cX3_parseLine 42 = .ok (.goto 76, 3) := by decide +kernel
theorem dX3_parseLine_45 : decode cX3_parseLine 45 = .ok (.aload_n 0, 1) := by decide +kernel
theorem dX3_parseLine_46 : decode cX3_parseLine 46 = .ok (.invokevirtual 145, 3) := by decide +kernel
theorem dX3_parseLine_49 : decode cX3_parseLine 49 = .ok (.istore_n 2, 1) := by decide +kernel
theorem dX3_parseLine_50 : decode cX3_parseLine 50 = .ok (.aload_n 0, 1) := by decide +kernel
theorem dX3_parseLine_51 : decode cX3_parseLine 51 = .ok (.bipush 61, 2) := by decide +kernel
theorem dX3_parseLine_53 : decode cX3_parseLine 53 = .ok (.invokevirtual 94, 3) := by decide +kernel
theorem dX3_parseLine_56 : decode cX3_parseLine 56 = .ok (.aload_n 0, 1) := by decide +kernel
theorem dX3_parseLine_57 : decode cX3_parseLine 57 = .ok (.bipush 6, 2) := by decide +kernel
theorem dX3_parseLine_59 : decode cX3_parseLine 59 = .ok (.invokevirtual 61, 3) := by decide +kernel
theorem dX3_parseLine_62 : decode cX3_parseLine 62 = .ok (.ifCond .eq 25, 3) := by decide +kernel
theorem dX3_parseLine_65 : decode cX3_parseLine 65 = .ok (.aload_n 0, 1) := by decide +kernel
theorem dX3_parseLine_66 : decode cX3_parseLine 66 = .ok (.invokevirtual 85, 3) := by decide +kernel
theorem dX3_parseLine_69 : decode cX3_parseLine 69 = .ok (.aload_n 0, 1) := by decide +kernel
theorem dX3_parseLine_70 : decode cX3_parseLine 70 = .ok (.getfield 29, 3) := by decide +kernel
theorem dX3_parseLine_73 : decode cX3_parseLine 73 = .ok (.iload_n 1, 1) := by decide +kernel
theorem dX3_parseLine_74 : decode cX3_parseLine 74 = .ok (.iconst 4, 1) := by decide +kernel
theorem dX3_parseLine_75 : decode cX3_parseLine 75 = .ok (.iload_n 2, 1) := by decide +kernel
theorem dX3_parseLine_76 : decode cX3_parseLine 76 = .ok (.aload_n 0, 1) := by decide +kernel
theorem dX3_parseLine_77 : decode cX3_parseLine 77 = .ok (.invokevirtual 138, 3) := by decide +kernel
theorem dX3_parseLine_80 : decode cX3_parseLine 80 = .ok (.iconst 0, 1) := by decide +kernel
theorem dX3_parseLine_81 : decode cX3_parseLine 81 = .ok (.invokevirtual 141, 3) := by decide +kernel
theorem dX3_parseLine_84 : decode cX3_parseLine 84 = .ok (.goto 34, 3) := by decide +kernel
theorem dX3_parseLine_87 : decode cX3_parseLine 87 = .ok (.aload_n 0, 1) := by decide +kernel
theorem dX3_parseLine_88 : decode cX3_parseLine 88 = .ok (.invokevirtual 138, 3) := by decide +kernel
theorem dX3_parseLine_91 : decode cX3_parseLine 91 = .ok (.istore_n 3, 1) := by decide +kernel
theorem dX3_parseLine_92 : decode cX3_parseLine 92 = .ok (.aload_n 0, 1) := by decide +kernel
theorem dX3_parseLine_93 : decode cX3_parseLine 93 = .ok (.invokevirtual 148, 3) := by decide +kernel
theorem dX3_parseLine_96 : decode cX3_parseLine 96 = .ok (.istore 4, 2) := by decide +kernel
theorem dX3_parseLine_98 : decode cX3_parseLine 98 = .ok (.aload_n 0, 1) := by decide +kernel
theorem dX3_parseLine_99 : decode cX3_parseLine 99 = .ok (.invokevirtual 138, 3) := by decide +kernel
theorem dX3_parseLine_102 : decode cX3_parseLine 102 = .ok (.istore 5, 2) := by decide +kernel
theorem dX3_parseLine_104 : decode cX3_parseLine 104 = .ok (.aload_n 0, 1) := by decide +kernel
theorem dX3_parseLine_105 : decode cX3_parseLine 105 = .ok (.getfield 29, 3) := by decide +kernel
theorem dX3_parseLine_108 : decode cX3_parseLine 108 = .ok (.iload_n 1, 1) := by decide +kernel
theorem dX3_parseLine_109 : decode cX3_parseLine 109 = .ok (.iload 4, 2) := by decide +kernel
theorem dX3_parseLine_111 : decode cX3_parseLine 111 = .ok (.iload_n 2, 1) := by decide +kernel
theorem dX3_parseLine_112 : decode cX3_parseLine 112 = .ok (.iload_n 3, 1) := by decide +kernel
theorem dX3_parseLine_113 : decode cX3_parseLine 113 = .ok (.iload 5, 2) := by decide +kernel
theorem dX3_parseLine_115 : decode cX3_parseLine 115 = .ok (.invokevirtual 141, 3) := by decide +kernel
theorem dX3_parseLine_118 : decode cX3_parseLine 118 = .ok (.aload_n 0, 1) := by decide +kernel
theorem dX3_parseLine_119 : decode cX3_parseLine 119 = .ok (.bipush 59, 2) := by decide +kernel
theorem dX3_parseLine_121 : decode cX3_parseLine 121 = .ok (.invokevirtual 94, 3) := by decide +kernel
theorem dX3_parseLine_124 : decode cX3_parseLine 124 = .ok (.return_, 1) := by decide +kernel
def fX3_parseLine (x0 x1 : Int) (v : V_) : Option (Int × V_) :=
  bd_ (fX3_sees x0 6 v) fun q1 =>
  if q1.1 = 0 then (
    bd_ (fX3_takeRegister x0 q1.2) fun q3 =>
    bd_ (fX3_expect x0 61 q3.2) fun q4 =>
    bd_ (fX3_sees x0 6 q4.2) fun q5 =>
    if q5.1 = 0 then (
      bd_ (fX3_takeValue x0 q5.2) fun q7 =>
      bd_ (fX3_takeOp x0 q7.2) fun q8 =>
      bd_ (fX3_takeValue x0 q8.2) fun q9 =>
      ck_ (q9.2 x0 4 = PA_ ∨ q9.2 x0 4 = PB_) (
      bd_ (fX5_addLine (q9.2 x0 4) x1 q8.1 q3.1 q7.1 q9.1 q9.2) fun q12 =>
      bd_ (fX3_expect x0 59 q12.2) fun q13 =>
      some (0, q13.2)))
    else (
      bd_ (fX3_take x0 q5.2) fun q14 =>
      ck_ (q14.2 x0 4 = PA_ ∨ q14.2 x0 4 = PB_) (
      bd_ (fX3_takeValue x0 q14.2) fun q17 =>
      bd_ (fX5_addLine (q14.2 x0 4) x1 4 q3.1 q17.1 0 q17.2) fun q18 =>
      bd_ (fX3_expect x0 59 q18.2) fun q19 =>
      some (0, q19.2))))
  else (
    bd_ (fX3_take x0 q1.2) fun q20 =>
    bd_ (fX3_takeValue x0 q20.2) fun q21 =>
    bd_ (fX3_expect x0 61 q21.2) fun q22 =>
    bd_ (fX3_takeValue x0 q22.2) fun q23 =>
    ck_ (q23.2 x0 4 = PA_ ∨ q23.2 x0 4 = PB_) (
    bd_ (fX5_addLine (q23.2 x0 4) x1 5 (-2) q21.1 q23.1 q23.2) fun q26 =>
    bd_ (fX3_expect x0 59 q26.2) fun q27 =>
    some (0, q27.2)))
theorem cX3_parseLine_ok (l : Launch) {E : En_} {sz : Int} (hC : Cl_ E.2.2.2.2.2 sz) (hG : Pg_ E.2.2.2.2.2) {x0 x1 : Int} {v : V_} {out : Int × V_} (T0 : (E.2.2.2.2.2 x0 ∧ ty_ x0 = 3 ∧ ln_ x0 = 0)) (h : fX3_parseLine x0 x1 v = some out) : Met l yX3_parseLine [.code yX3_parseLine cX3_parseLine 6 (none : Option FieldType)] (rm_ 4 84) (Pc_ E sz v [(2, x0), (0, x1)]) (Qc_ E sz 9 out.1 out.2) 0 0 (fun q => E.1 < q) := by
  refine met_G0 RX3 (by decide +kernel) rfl (Nat.le_of_ble_eq_true rfl) ?_
  intro p e s m args below meth c C hr hlk
  rw [fX3_parseLine] at h
  refine g_aload_n C (f := 0) dX3_parseLine_0 0 rfl ?_
  refine g_bipush C (n := 6) dX3_parseLine_1 (by decide) ?_
  obtain ⟨q1, eq1, h⟩ := bd_e h
  refine g_cV C [(0, 6)] (cX3_sees_ok l hC hG T0 eq1) okX3 T0.2.1 (rg_ hC T0.1) km_RX3_61 cv_X3_sees rfl (by decide) rfl rfl (Nat.le_of_ble_eq_true rfl) dX3_parseLine_3 ?_
  refine g_if_eq C 45 dX3_parseLine_6 rfl (fun c2 => ?_) (fun c2 => ?_)
  · replace h := if_t h c2
    refine g_aload_n C (f := 0) dX3_parseLine_45 0 rfl ?_
    obtain ⟨q3, eq3, h⟩ := bd_e h
    refine g_cV C [] (cX3_takeRegister_ok l hC hG T0 eq3) okX3 T0.2.1 (rg_ hC T0.1) km_RX3_145 cv_X3_takeRegister rfl (by decide) rfl rfl (Nat.le_of_ble_eq_true rfl) dX3_parseLine_46 ?_
    refine g_istore_n C (f := 2) (ls' := [(2, (0, q3.1)), (0, (2, x0)), (1, (0, x1))]) dX3_parseLine_49 (by decide) rfl ?_
    refine g_aload_n C (f := 0) dX3_parseLine_50 1 rfl ?_
    refine g_bipush C (n := 61) dX3_parseLine_51 (by decide) ?_
    obtain ⟨q4, eq4, h⟩ := bd_e h
    refine g_cV C [(0, 61)] (cX3_expect_ok l hC hG T0 eq4) okX3 T0.2.1 (rg_ hC T0.1) km_RX3_94 cv_X3_expect rfl (by decide) rfl rfl (Nat.le_of_ble_eq_true rfl) dX3_parseLine_53 ?_
    refine g_aload_n C (f := 0) dX3_parseLine_56 1 rfl ?_
    refine g_bipush C (n := 6) dX3_parseLine_57 (by decide) ?_
    obtain ⟨q5, eq5, h⟩ := bd_e h
    refine g_cV C [(0, 6)] (cX3_sees_ok l hC hG T0 eq5) okX3 T0.2.1 (rg_ hC T0.1) km_RX3_61 cv_X3_sees rfl (by decide) rfl rfl (Nat.le_of_ble_eq_true rfl) dX3_parseLine_59 ?_
    refine g_if_eq C 87 dX3_parseLine_62 rfl (fun c6 => ?_) (fun c6 => ?_)
    · replace h := if_t h c6
      refine g_aload_n C (f := 0) dX3_parseLine_87 1 rfl ?_
      obtain ⟨q7, eq7, h⟩ := bd_e h
      refine g_cV C [] (cX3_takeValue_ok l hC hG T0 eq7) okX3 T0.2.1 (rg_ hC T0.1) km_RX3_138 cv_X3_takeValue rfl (by decide) rfl rfl (Nat.le_of_ble_eq_true rfl) dX3_parseLine_88 ?_
      refine g_istore_n C (f := 3) (ls' := [(3, (0, q7.1)), (2, (0, q3.1)), (0, (2, x0)), (1, (0, x1))]) dX3_parseLine_91 (by decide) rfl ?_
      refine g_aload_n C (f := 0) dX3_parseLine_92 2 rfl ?_
      obtain ⟨q8, eq8, h⟩ := bd_e h
      refine g_cV C [] (cX3_takeOp_ok l hC hG T0 eq8) okX3 T0.2.1 (rg_ hC T0.1) km_RX3_148 cv_X3_takeOp rfl (by decide) rfl rfl (Nat.le_of_ble_eq_true rfl) dX3_parseLine_93 ?_
      refine g_istore C (i := 4) (ls' := [(4, (0, q8.1)), (3, (0, q7.1)), (2, (0, q3.1)), (0, (2, x0)), (1, (0, x1))]) dX3_parseLine_96 (by decide) rfl ?_
      refine g_aload_n C (f := 0) dX3_parseLine_98 3 rfl ?_
      obtain ⟨q9, eq9, h⟩ := bd_e h
      refine g_cV C [] (cX3_takeValue_ok l hC hG T0 eq9) okX3 T0.2.1 (rg_ hC T0.1) km_RX3_138 cv_X3_takeValue rfl (by decide) rfl rfl (Nat.le_of_ble_eq_true rfl) dX3_parseLine_99 ?_
      refine g_istore C (i := 5) (ls' := [(5, (0, q9.1)), (4, (0, q8.1)), (3, (0, q7.1)), (2, (0, q3.1)), (0, (2, x0)), (1, (0, x1))]) dX3_parseLine_102 (by decide) rfl ?_
      refine g_aload_n C (f := 0) dX3_parseLine_104 4 rfl ?_
      obtain ⟨c10, h⟩ := ck_e h
      refine g_getf C (k := 4) (kd := 2) okX3 (by decide) kf_RX3_29 dX3_parseLine_105 (rg_ hC T0.1) T0.2.1 rfl ?_
      have F11 := pgF_ hG c10
      refine g_iload_n C (f := 1) dX3_parseLine_108 5 rfl ?_
      refine g_iload C (i := 4) dX3_parseLine_109 1 rfl ?_
      refine g_iload_n C (f := 2) dX3_parseLine_111 3 rfl ?_
      refine g_iload_n C (f := 3) dX3_parseLine_112 2 rfl ?_
      refine g_iload C (i := 5) dX3_parseLine_113 0 rfl ?_
      obtain ⟨q12, eq12, h⟩ := bd_e h
      refine g_cV C [(0, x1), (0, q8.1), (0, q3.1), (0, q7.1), (0, q9.1)] (cX5_addLine_ok l hC F11 eq12) okX5 F11.2.1 (rg_ hC F11.1) km_RX3_141 cv_X5_addLine rfl (by decide) rfl rfl (Nat.le_of_ble_eq_true rfl) dX3_parseLine_115 ?_
      refine g_aload_n C (f := 0) dX3_parseLine_118 4 rfl ?_
      refine g_bipush C (n := 59) dX3_parseLine_119 (by decide) ?_
      obtain ⟨q13, eq13, h⟩ := bd_e h
      refine g_cV C [(0, 59)] (cX3_expect_ok l hC hG T0 eq13) okX3 T0.2.1 (rg_ hC T0.1) km_RX3_94 cv_X3_expect rfl (by decide) rfl rfl (Nat.le_of_ble_eq_true rfl) dX3_parseLine_121 ?_
      cases h
      exact g_vret C dX3_parseLine_124 hr hlk
    · replace h := if_f h c6
      refine g_aload_n C (f := 0) dX3_parseLine_65 1 rfl ?_
      obtain ⟨q14, eq14, h⟩ := bd_e h
      refine g_cV C [] (cX3_take_ok l hC hG T0 eq14) okX3 T0.2.1 (rg_ hC T0.1) km_RX3_85 cv_X3_take rfl (by decide) rfl rfl (Nat.le_of_ble_eq_true rfl) dX3_parseLine_66 ?_
      refine g_aload_n C (f := 0) dX3_parseLine_69 1 rfl ?_
      obtain ⟨c15, h⟩ := ck_e h
      refine g_getf C (k := 4) (kd := 2) okX3 (by decide) kf_RX3_29 dX3_parseLine_70 (rg_ hC T0.1) T0.2.1 rfl ?_
      have F16 := pgF_ hG c15
      refine g_iload_n C (f := 1) dX3_parseLine_73 2 rfl ?_
      refine g_iconst C (n := 4) dX3_parseLine_74 (by decide) ?_
      refine g_iload_n C (f := 2) dX3_parseLine_75 0 rfl ?_
      refine g_aload_n C (f := 0) dX3_parseLine_76 1 rfl ?_
      obtain ⟨q17, eq17, h⟩ := bd_e h
      refine g_cV C [] (cX3_takeValue_ok l hC hG T0 eq17) okX3 T0.2.1 (rg_ hC T0.1) km_RX3_138 cv_X3_takeValue rfl (by decide) rfl rfl (Nat.le_of_ble_eq_true rfl) dX3_parseLine_77 ?_
      refine g_iconst C (n := 0) dX3_parseLine_80 (by decide) ?_
      obtain ⟨q18, eq18, h⟩ := bd_e h
      refine g_cV C [(0, x1), (0, 4), (0, q3.1), (0, q17.1), (0, 0)] (cX5_addLine_ok l hC F16 eq18) okX5 F16.2.1 (rg_ hC F16.1) km_RX3_141 cv_X5_addLine rfl (by decide) rfl rfl (Nat.le_of_ble_eq_true rfl) dX3_parseLine_81 ?_
      refine g_goto C 118 dX3_parseLine_84 rfl ?_
      refine g_aload_n C (f := 0) dX3_parseLine_118 1 rfl ?_
      refine g_bipush C (n := 59) dX3_parseLine_119 (by decide) ?_
      obtain ⟨q19, eq19, h⟩ := bd_e h
      refine g_cV C [(0, 59)] (cX3_expect_ok l hC hG T0 eq19) okX3 T0.2.1 (rg_ hC T0.1) km_RX3_94 cv_X3_expect rfl (by decide) rfl rfl (Nat.le_of_ble_eq_true rfl) dX3_parseLine_121 ?_
      cases h
      exact g_vret C dX3_parseLine_124 hr hlk
  · replace h := if_f h c2
    refine g_aload_n C (f := 0) dX3_parseLine_9 0 rfl ?_
    obtain ⟨q20, eq20, h⟩ := bd_e h
    refine g_cV C [] (cX3_take_ok l hC hG T0 eq20) okX3 T0.2.1 (rg_ hC T0.1) km_RX3_85 cv_X3_take rfl (by decide) rfl rfl (Nat.le_of_ble_eq_true rfl) dX3_parseLine_10 ?_
    refine g_aload_n C (f := 0) dX3_parseLine_13 0 rfl ?_
    obtain ⟨q21, eq21, h⟩ := bd_e h
    refine g_cV C [] (cX3_takeValue_ok l hC hG T0 eq21) okX3 T0.2.1 (rg_ hC T0.1) km_RX3_138 cv_X3_takeValue rfl (by decide) rfl rfl (Nat.le_of_ble_eq_true rfl) dX3_parseLine_14 ?_
    refine g_istore_n C (f := 2) (ls' := [(2, (0, q21.1)), (0, (2, x0)), (1, (0, x1))]) dX3_parseLine_17 (by decide) rfl ?_
    refine g_aload_n C (f := 0) dX3_parseLine_18 1 rfl ?_
    refine g_bipush C (n := 61) dX3_parseLine_19 (by decide) ?_
    obtain ⟨q22, eq22, h⟩ := bd_e h
    refine g_cV C [(0, 61)] (cX3_expect_ok l hC hG T0 eq22) okX3 T0.2.1 (rg_ hC T0.1) km_RX3_94 cv_X3_expect rfl (by decide) rfl rfl (Nat.le_of_ble_eq_true rfl) dX3_parseLine_21 ?_
    refine g_aload_n C (f := 0) dX3_parseLine_24 1 rfl ?_
    obtain ⟨q23, eq23, h⟩ := bd_e h
    refine g_cV C [] (cX3_takeValue_ok l hC hG T0 eq23) okX3 T0.2.1 (rg_ hC T0.1) km_RX3_138 cv_X3_takeValue rfl (by decide) rfl rfl (Nat.le_of_ble_eq_true rfl) dX3_parseLine_25 ?_
    refine g_istore_n C (f := 3) (ls' := [(3, (0, q23.1)), (2, (0, q21.1)), (0, (2, x0)), (1, (0, x1))]) dX3_parseLine_28 (by decide) rfl ?_
    refine g_aload_n C (f := 0) dX3_parseLine_29 2 rfl ?_
    obtain ⟨c24, h⟩ := ck_e h
    refine g_getf C (k := 4) (kd := 2) okX3 (by decide) kf_RX3_29 dX3_parseLine_30 (rg_ hC T0.1) T0.2.1 rfl ?_
    have F25 := pgF_ hG c24
    refine g_iload_n C (f := 1) dX3_parseLine_33 3 rfl ?_
    refine g_iconst C (n := 5) dX3_parseLine_34 (by decide) ?_
    refine g_bipush C (n := (-2)) dX3_parseLine_35 (by decide) ?_
    refine g_iload_n C (f := 2) dX3_parseLine_37 1 rfl ?_
    refine g_iload_n C (f := 3) dX3_parseLine_38 0 rfl ?_
    obtain ⟨q26, eq26, h⟩ := bd_e h
    refine g_cV C [(0, x1), (0, 5), (0, (-2)), (0, q21.1), (0, q23.1)] (cX5_addLine_ok l hC F25 eq26) okX5 F25.2.1 (rg_ hC F25.1) km_RX3_141 cv_X5_addLine rfl (by decide) rfl rfl (Nat.le_of_ble_eq_true rfl) dX3_parseLine_39 ?_
    refine g_goto C 118 dX3_parseLine_42 rfl ?_
    refine g_aload_n C (f := 0) dX3_parseLine_118 2 rfl ?_
    refine g_bipush C (n := 59) dX3_parseLine_119 (by decide) ?_
    obtain ⟨q27, eq27, h⟩ := bd_e h
    refine g_cV C [(0, 59)] (cX3_expect_ok l hC hG T0 eq27) okX3 T0.2.1 (rg_ hC T0.1) km_RX3_94 cv_X3_expect rfl (by decide) rfl rfl (Nat.le_of_ble_eq_true rfl) dX3_parseLine_121 ?_
    cases h
    exact g_vret C dX3_parseLine_124 hr hlk
theorem dX3_seesLine_0 : decode cX3_seesLine 0 = .ok (.aload_n 0, 1) := by decide +kernel
theorem dX3_seesLine_1 : decode cX3_seesLine 1 = .ok (.getfield 48, 3) := by decide +kernel
theorem dX3_seesLine_4 : decode cX3_seesLine 4 = .ok (.ifCond .ne 23, 3) := by decide +kernel
theorem dX3_seesLine_7 : decode cX3_seesLine 7 = .ok (.aload_n 0, 1) := by decide +kernel
theorem dX3_seesLine_8 : decode cX3_seesLine 8 = .ok (.invokevirtual 135, 3) := by decide +kernel
theorem dX3_seesLine_11 : decode cX3_seesLine 11 = .ok (.ifCond .ne 12, 3) := by decide +kernel
theorem dX3_seesLine_14 : decode cX3_seesLine 14 = .ok (.aload_n 0, 1) := by decide +kernel
theorem dX3_seesLine_15 : decode cX3_seesLine 15 = .ok (.bipush 6, 2) := by decide +kernel
theorem dX3_seesLine_17 : decode cX3_seesLine 17 = .ok (.invokevirtual 61, 3) := by decide +kernel
theorem dX3_seesLine_20 : decode cX3_seesLine 20 = .ok (.ifCond .eq 7, 3) := by decide +kernel
theorem dX3_seesLine_23 : decode cX3_seesLine 23 = .ok (.iconst 1, 1) := by decide +kernel
theorem dX3_seesLine_24 : decode cX3_seesLine 24 = .ok (.goto 4, 3) := by decide +kernel
theorem dX3_seesLine_27 : decode cX3_seesLine 27 = .ok (.iconst 0, 1) := by decide +kernel
theorem dX3_seesLine_28 : decode cX3_seesLine 28 = .ok (.ireturn, 1) := by decide +kernel
def fX3_seesLine (x0 : Int) (v : V_) : Option (Int × V_) :=
  if (v x0 6) = 0 then (
    bd_ (fX3_seesRegister x0 v) fun q2 =>
    if q2.1 = 0 then (
      bd_ (fX3_sees x0 6 q2.2) fun q4 =>
      if q4.1 = 0 then (
        some (0, q4.2))
      else (
        some (1, q4.2)))
    else (
      some (1, q2.2)))
  else (
    some (0, v))
theorem cX3_seesLine_ok (l : Launch) {E : En_} {sz : Int} (hC : Cl_ E.2.2.2.2.2 sz) (hG : Pg_ E.2.2.2.2.2) {x0 : Int} {v : V_} {out : Int × V_} (T0 : (E.2.2.2.2.2 x0 ∧ ty_ x0 = 3 ∧ ln_ x0 = 0)) (h : fX3_seesLine x0 v = some out) : Met l yX3_seesLine [.code yX3_seesLine cX3_seesLine 1 (some FieldType.boolean)] (rm_ 2 42) (Pc_ E sz v [(2, x0)]) (Qc_ E sz 0 out.1 out.2) 0 0 (fun q => E.1 < q) := by
  refine met_G0 RX3 (by decide +kernel) rfl (Nat.le_of_ble_eq_true rfl) ?_
  intro p e s m args below meth c C hr hlk
  rw [fX3_seesLine] at h
  refine g_aload_n C (f := 0) dX3_seesLine_0 0 rfl ?_
  refine g_getf C (k := 6) (kd := 0) okX3 (by decide) kf_RX3_48 dX3_seesLine_1 (rg_ hC T0.1) T0.2.1 rfl ?_
  refine g_if_ne C 27 dX3_seesLine_4 rfl (fun c1 => ?_) (fun c1 => ?_)
  · replace h := if_f h c1
    refine g_iconst C (n := 0) dX3_seesLine_27 (by decide) ?_
    cases h
    exact g_zret C dX3_seesLine_28 hr hlk (Or.inl rfl)
  · replace h := if_t h c1
    refine g_aload_n C (f := 0) dX3_seesLine_7 0 rfl ?_
    obtain ⟨q2, eq2, h⟩ := bd_e h
    refine g_cV C [] (cX3_seesRegister_ok l hC hG T0 eq2) okX3 T0.2.1 (rg_ hC T0.1) km_RX3_135 cv_X3_seesRegister rfl (by decide) rfl rfl (Nat.le_of_ble_eq_true rfl) dX3_seesLine_8 ?_
    refine g_if_ne C 23 dX3_seesLine_11 rfl (fun c3 => ?_) (fun c3 => ?_)
    · replace h := if_f h c3
      refine g_iconst C (n := 1) dX3_seesLine_23 (by decide) ?_
      refine g_goto C 28 dX3_seesLine_24 rfl ?_
      cases h
      exact g_zret C dX3_seesLine_28 hr hlk (Or.inr rfl)
    · replace h := if_t h c3
      refine g_aload_n C (f := 0) dX3_seesLine_14 0 rfl ?_
      refine g_bipush C (n := 6) dX3_seesLine_15 (by decide) ?_
      obtain ⟨q4, eq4, h⟩ := bd_e h
      refine g_cV C [(0, 6)] (cX3_sees_ok l hC hG T0 eq4) okX3 T0.2.1 (rg_ hC T0.1) km_RX3_61 cv_X3_sees rfl (by decide) rfl rfl (Nat.le_of_ble_eq_true rfl) dX3_seesLine_17 ?_
      refine g_if_eq C 27 dX3_seesLine_20 rfl (fun c5 => ?_) (fun c5 => ?_)
      · replace h := if_t h c5
        refine g_iconst C (n := 0) dX3_seesLine_27 (by decide) ?_
        cases h
        exact g_zret C dX3_seesLine_28 hr hlk (Or.inl rfl)
      · replace h := if_f h c5
        refine g_iconst C (n := 1) dX3_seesLine_23 (by decide) ?_
        refine g_goto C 28 dX3_seesLine_24 rfl ?_
        cases h
        exact g_zret C dX3_seesLine_28 hr hlk (Or.inr rfl)
theorem dX3_tellName_0 : decode cX3_tellName 0 = .ok (.aload_n 0, 1) := by decide +kernel
theorem dX3_tellName_1 : decode cX3_tellName 1 = .ok (.getfield 12, 3) := by decide +kernel
theorem dX3_tellName_4 : decode cX3_tellName 4 = .ok (.aload_n 0, 1) := by decide +kernel
theorem dX3_tellName_5 : decode cX3_tellName 5 = .ok (.getfield 44, 3) := by decide +kernel
theorem dX3_tellName_8 : decode cX3_tellName 8 = .ok (.invokevirtual 81, 3) := by decide +kernel
theorem dX3_tellName_11 : decode cX3_tellName 11 = .ok (.istore_n 2, 1) := by decide +kernel
theorem dX3_tellName_12 : decode cX3_tellName 12 = .ok (.aload_n 0, 1) := by decide +kernel
theorem dX3_tellName_13 : decode cX3_tellName 13 = .ok (.getfield 18, 3) := by decide +kernel
theorem dX3_tellName_16 : decode cX3_tellName 16 = .ok (.iload_n 1, 1) := by decide +kernel
theorem dX3_tellName_17 : decode cX3_tellName 17 = .ok (.aload_n 0, 1) := by decide +kernel
theorem dX3_tellName_18 : decode cX3_tellName 18 = .ok (.getfield 12, 3) := by decide +kernel
theorem dX3_tellName_21 : decode cX3_tellName 21 = .ok (.aload_n 0, 1) := by decide +kernel
theorem dX3_tellName_22 : decode cX3_tellName 22 = .ok (.getfield 44, 3) := by decide +kernel
theorem dX3_tellName_25 : decode cX3_tellName 25 = .ok (.invokevirtual 103, 3) := by decide +kernel
theorem dX3_tellName_28 : decode cX3_tellName 28 = .ok (.lastore, 1) := by decide +kernel
theorem dX3_tellName_29 : decode cX3_tellName 29 = .ok (.aload_n 0, 1) := by decide +kernel
theorem dX3_tellName_30 : decode cX3_tellName 30 = .ok (.bipush 17, 2) := by decide +kernel
theorem dX3_tellName_32 : decode cX3_tellName 32 = .ok (.invokevirtual 94, 3) := by decide +kernel
theorem dX3_tellName_35 : decode cX3_tellName 35 = .ok (.aload_n 0, 1) := by decide +kernel
theorem dX3_tellName_36 : decode cX3_tellName 36 = .ok (.getfield 48, 3) := by decide +kernel
theorem dX3_tellName_39 : decode cX3_tellName 39 = .ok (.ifCond .ne 24, 3) := by decide +kernel
theorem dX3_tellName_42 : decode cX3_tellName 42 = .ok (.aload_n 0, 1) := by decide +kernel
theorem dX3_tellName_43 : decode cX3_tellName 43 = .ok (.aload_n 0, 1) := by decide +kernel
theorem dX3_tellName_44 : decode cX3_tellName 44 = .ok (.getfield 18, 3) := by decide +kernel
theorem dX3_tellName_47 : decode cX3_tellName 47 = .ok (.iload_n 1, 1) := by decide +kernel
theorem dX3_tellName_48 : decode cX3_tellName 48 = .ok (.laload, 1) := by decide +kernel
theorem dX3_tellName_49 : decode cX3_tellName 49 = .ok (.iload_n 1, 1) := by decide +kernel
theorem dX3_tellName_50 : decode cX3_tellName 50 = .ok (.invokevirtual 131, 3) := by decide +kernel
theorem dX3_tellName_53 : decode cX3_tellName 53 = .ok (.iconst (-1), 1) := by decide +kernel
theorem dX3_tellName_54 : decode cX3_tellName 54 = .ok (.if_icmp .eq 9, 3) := by decide +kernel
theorem dX3_tellName_57 : decode cX3_tellName 57 = .ok (.aload_n 0, 1) := by decide +kernel
theorem dX3_tellName_58 : decode cX3_tellName 58 = .ok (.iconst 3, 1) := by decide +kernel
theorem dX3_tellName_59 : decode cX3_tellName 59 = .ok (.iload_n 2, 1) := by decide +kernel
theorem dX3_tellName_60 : decode cX3_tellName 60 = .ok (.invokevirtual 107, 3) := by decide +kernel
theorem dX3_tellName_63 : decode cX3_tellName 63 = .ok (.return_, 1) := by decide +kernel
def fX3_tellName (x0 x1 : Int) (v : V_) : Option (Int × V_) :=
  bd_ (fX9_placeAt (x0 + 1) (v x0 5) v) fun q2 =>
  bd_ (fX9_valueAt (x0 + 1) (q2.2 x0 5) q2.2) fun q5 =>
  ck_ (0 ≤ x1 ∧ x1 < 8) (
  lt_ (up_ q5.2 (x0 + 6) x1 q5.1) fun v7 =>
  bd_ (fX3_expect x0 17 v7) fun q8 =>
  if (q8.2 x0 6) = 0 then (
    ck_ (0 ≤ x1 ∧ x1 < 8) (
    bd_ (fX3_blockNamed x0 (q8.2 (x0 + 6) x1) x1 q8.2) fun q12 =>
    if q12.1 = (-1) then (
      some (0, q12.2))
    else (
      bd_ (fX3_failLater x0 3 q2.1 q12.2) fun q14 =>
      some (0, q14.2))))
  else (
    some (0, q8.2)))
theorem cX3_tellName_ok (l : Launch) {E : En_} {sz : Int} (hC : Cl_ E.2.2.2.2.2 sz) (hG : Pg_ E.2.2.2.2.2) {x0 x1 : Int} {v : V_} {out : Int × V_} (T0 : (E.2.2.2.2.2 x0 ∧ ty_ x0 = 3 ∧ ln_ x0 = 0)) (h : fX3_tellName x0 x1 v = some out) : Met l yX3_tellName [.code yX3_tellName cX3_tellName 3 (none : Option FieldType)] (rm_ 3 63) (Pc_ E sz v [(2, x0), (0, x1)]) (Qc_ E sz 9 out.1 out.2) 0 0 (fun q => E.1 < q) := by
  refine met_G0 RX3 (by decide +kernel) rfl (Nat.le_of_ble_eq_true rfl) ?_
  intro p e s m args below meth c C hr hlk
  rw [fX3_tellName] at h
  refine g_aload_n C (f := 0) dX3_tellName_0 0 rfl ?_
  have F1 := fX3_0 hC T0.1 T0.2.1
  refine g_getR C (k := 0) (o := 1) okX3 (by decide) kf_RX3_12 dX3_tellName_1 hC T0.1 T0.2.1 rfl rfl ?_
  refine g_aload_n C (f := 0) dX3_tellName_4 0 rfl ?_
  refine g_getf C (k := 5) (kd := 0) okX3 (by decide) kf_RX3_44 dX3_tellName_5 (rg_ hC T0.1) T0.2.1 rfl ?_
  obtain ⟨q2, eq2, h⟩ := bd_e h
  refine g_cV C [(0, v x0 5)] (cX9_placeAt_ok l hC F1 eq2) okX9 F1.2.1 (rg_ hC F1.1) km_RX3_81 cv_X9_placeAt rfl (by decide) rfl rfl (Nat.le_of_ble_eq_true rfl) dX3_tellName_8 ?_
  refine g_istore_n C (f := 2) (ls' := [(2, (0, q2.1)), (0, (2, x0)), (1, (0, x1))]) dX3_tellName_11 (by decide) rfl ?_
  refine g_aload_n C (f := 0) dX3_tellName_12 1 rfl ?_
  have F3 := fX3_1 hC T0.1 T0.2.1
  refine g_getR C (k := 1) (o := 6) okX3 (by decide) kf_RX3_18 dX3_tellName_13 hC T0.1 T0.2.1 rfl rfl ?_
  refine g_iload_n C (f := 1) dX3_tellName_16 2 rfl ?_
  refine g_aload_n C (f := 0) dX3_tellName_17 1 rfl ?_
  have F4 := fX3_0 hC T0.1 T0.2.1
  refine g_getR C (k := 0) (o := 1) okX3 (by decide) kf_RX3_12 dX3_tellName_18 hC T0.1 T0.2.1 rfl rfl ?_
  refine g_aload_n C (f := 0) dX3_tellName_21 1 rfl ?_
  refine g_getf C (k := 5) (kd := 0) okX3 (by decide) kf_RX3_44 dX3_tellName_22 (rg_ hC T0.1) T0.2.1 rfl ?_
  obtain ⟨q5, eq5, h⟩ := bd_e h
  refine g_cV C [(0, q2.2 x0 5)] (cX9_valueAt_ok l hC F4 eq5) okX9 F4.2.1 (rg_ hC F4.1) km_RX3_103 cv_X9_valueAt rfl (by decide) rfl rfl (Nat.le_of_ble_eq_true rfl) dX3_tellName_25 ?_
  obtain ⟨c6, h⟩ := ck_e h
  obtain ⟨v7, ev7, h⟩ := lt_e h
  refine g_last C 8 dX3_tellName_28 (rg_ hC F3.1) F3.2.1 F3.2.2 c6 v7 ev7 ?_
  refine g_aload_n C (f := 0) dX3_tellName_29 1 rfl ?_
  refine g_bipush C (n := 17) dX3_tellName_30 (by decide) ?_
  obtain ⟨q8, eq8, h⟩ := bd_e h
  refine g_cV C [(0, 17)] (cX3_expect_ok l hC hG T0 eq8) okX3 T0.2.1 (rg_ hC T0.1) km_RX3_94 cv_X3_expect rfl (by decide) rfl rfl (Nat.le_of_ble_eq_true rfl) dX3_tellName_32 ?_
  refine g_aload_n C (f := 0) dX3_tellName_35 1 rfl ?_
  refine g_getf C (k := 6) (kd := 0) okX3 (by decide) kf_RX3_48 dX3_tellName_36 (rg_ hC T0.1) T0.2.1 rfl ?_
  refine g_if_ne C 63 dX3_tellName_39 rfl (fun c9 => ?_) (fun c9 => ?_)
  · replace h := if_f h c9
    cases h
    exact g_vret C dX3_tellName_63 hr hlk
  · replace h := if_t h c9
    refine g_aload_n C (f := 0) dX3_tellName_42 1 rfl ?_
    refine g_aload_n C (f := 0) dX3_tellName_43 1 rfl ?_
    have F10 := fX3_1 hC T0.1 T0.2.1
    refine g_getR C (k := 1) (o := 6) okX3 (by decide) kf_RX3_18 dX3_tellName_44 hC T0.1 T0.2.1 rfl rfl ?_
    refine g_iload_n C (f := 1) dX3_tellName_47 2 rfl ?_
    obtain ⟨c11, h⟩ := ck_e h
    refine g_lald C 8 dX3_tellName_48 (rg_ hC F10.1) F10.2.1 F10.2.2 c11 ?_
    refine g_iload_n C (f := 1) dX3_tellName_49 2 rfl ?_
    obtain ⟨q12, eq12, h⟩ := bd_e h
    refine g_cV C [(1, q8.2 (x0 + 6) x1), (0, x1)] (cX3_blockNamed_ok l hC hG T0 eq12) okX3 T0.2.1 (rg_ hC T0.1) km_RX3_131 cv_X3_blockNamed rfl (by decide) rfl rfl (Nat.le_of_ble_eq_true rfl) dX3_tellName_50 ?_
    refine g_iconst C (n := (-1)) dX3_tellName_53 (by decide) ?_
    refine g_icmp_eq C 63 dX3_tellName_54 rfl (fun c13 => ?_) (fun c13 => ?_)
    · replace h := if_t h c13
      cases h
      exact g_vret C dX3_tellName_63 hr hlk
    · replace h := if_f h c13
      refine g_aload_n C (f := 0) dX3_tellName_57 1 rfl ?_
      refine g_iconst C (n := 3) dX3_tellName_58 (by decide) ?_
      refine g_iload_n C (f := 2) dX3_tellName_59 0 rfl ?_
      obtain ⟨q14, eq14, h⟩ := bd_e h
      refine g_cV C [(0, 3), (0, q2.1)] (cX3_failLater_ok l hC hG T0 eq14) okX3 T0.2.1 (rg_ hC T0.1) km_RX3_107 cv_X3_failLater rfl (by decide) rfl rfl (Nat.le_of_ble_eq_true rfl) dX3_tellName_60 ?_
      cases h
      exact g_vret C dX3_tellName_63 hr hlk
theorem dX5_addBlock_0 : decode cX5_addBlock 0 = .ok (.aload_n 0, 1) := by decide +kernel
theorem dX5_addBlock_1 : decode cX5_addBlock 1 = .ok (.getfield 40, 3) := by decide +kernel
theorem dX5_addBlock_4 : decode cX5_addBlock 4 = .ok (.istore_n 1, 1) := by decide +kernel
theorem dX5_addBlock_5 : decode cX5_addBlock 5 = .ok (.aload_n 0, 1) := by decide +kernel
theorem dX5_addBlock_6 : decode cX5_addBlock 6 = .ok (.dup, 1) := by decide +kernel
theorem dX5_addBlock_7 : decode cX5_addBlock 7 = .ok (.getfield 40, 3) := by decide +kernel
theorem dX5_addBlock_10 : decode cX5_addBlock 10 = .ok (.iconst 1, 1) := by decide +kernel
theorem dX5_addBlock_11 : decode cX5_addBlock 11 = .ok (.iadd, 1) := by decide +kernel
theorem dX5_addBlock_12 : decode cX5_addBlock 12 = .ok (.putfield 40, 3) := by decide +kernel
theorem dX5_addBlock_15 : decode cX5_addBlock 15 = .ok (.aload_n 0, 1) := by decide +kernel
theorem dX5_addBlock_16 : decode cX5_addBlock 16 = .ok (.getfield 9, 3) := by decide +kernel
theorem dX5_addBlock_19 : decode cX5_addBlock 19 = .ok (.iload_n 1, 1) := by decide +kernel
theorem dX5_addBlock_20 : decode cX5_addBlock 20 = .ok (.iconst 0, 1) := by decide +kernel
theorem dX5_addBlock_21 : decode cX5_addBlock 21 = .ok (.iastore, 1) := by decide +kernel
theorem dX5_addBlock_22 : decode cX5_addBlock 22 = .ok (.aload_n 0, 1) := by decide +kernel
theorem dX5_addBlock_23 : decode cX5_addBlock 23 = .ok (.getfield 21, 3) := by decide +kernel
theorem dX5_addBlock_26 : decode cX5_addBlock 26 = .ok (.iload_n 1, 1) := by decide +kernel
theorem dX5_addBlock_27 : decode cX5_addBlock 27 = .ok (.aaload, 1) := by decide +kernel
theorem dX5_addBlock_28 : decode cX5_addBlock 28 = .ok (.bipush 9, 2) := by decide +kernel
theorem dX5_addBlock_30 : decode cX5_addBlock 30 = .ok (.bipush (-2), 2) := by decide +kernel
theorem dX5_addBlock_32 : decode cX5_addBlock 32 = .ok (.iconst 0, 1) := by decide +kernel
theorem dX5_addBlock_33 : decode cX5_addBlock 33 = .ok (.iconst 0, 1) := by decide +kernel
theorem dX5_addBlock_34 : decode cX5_addBlock 34 = .ok (.invokevirtual 50, 3) := by decide +kernel
theorem dX5_addBlock_37 : decode cX5_addBlock 37 = .ok (.aload_n 0, 1) := by decide +kernel
theorem dX5_addBlock_38 : decode cX5_addBlock 38 = .ok (.getfield 24, 3) := by decide +kernel
theorem dX5_addBlock_41 : decode cX5_addBlock 41 = .ok (.iload_n 1, 1) := by decide +kernel
theorem dX5_addBlock_42 : decode cX5_addBlock 42 = .ok (.iconst 2, 1) := by decide +kernel
theorem dX5_addBlock_43 : decode cX5_addBlock 43 = .ok (.imul, 1) := by decide +kernel
theorem dX5_addBlock_44 : decode cX5_addBlock 44 = .ok (.bipush (-2), 2) := by decide +kernel
theorem dX5_addBlock_46 : decode cX5_addBlock 46 = .ok (.iastore, 1) := by decide +kernel
theorem dX5_addBlock_47 : decode cX5_addBlock 47 = .ok (.aload_n 0, 1) := by decide +kernel
theorem dX5_addBlock_48 : decode cX5_addBlock 48 = .ok (.getfield 24, 3) := by decide +kernel
theorem dX5_addBlock_51 : decode cX5_addBlock 51 = .ok (.iload_n 1, 1) := by decide +kernel
theorem dX5_addBlock_52 : decode cX5_addBlock 52 = .ok (.iconst 2, 1) := by decide +kernel
theorem dX5_addBlock_53 : decode cX5_addBlock 53 = .ok (.imul, 1) := by decide +kernel
theorem dX5_addBlock_54 : decode cX5_addBlock 54 = .ok (.iconst 1, 1) := by decide +kernel
theorem dX5_addBlock_55 : decode cX5_addBlock 55 = .ok (.iadd, 1) := by decide +kernel
theorem dX5_addBlock_56 : decode cX5_addBlock 56 = .ok (.bipush (-2), 2) := by decide +kernel
theorem dX5_addBlock_58 : decode cX5_addBlock 58 = .ok (.iastore, 1) := by decide +kernel
theorem dX5_addBlock_59 : decode cX5_addBlock 59 = .ok (.iload_n 1, 1) := by decide +kernel
theorem dX5_addBlock_60 : decode cX5_addBlock 60 = .ok (.ireturn, 1) := by decide +kernel
def fX5_addBlock (x0 : Int) (v : V_) : Option (Int × V_) :=
  lt_ (v x0 0) fun y1 =>
  lt_ (up_ v x0 0 (wr_ ((v x0 0) + 1))) fun v2 =>
  ck_ (0 ≤ y1 ∧ y1 < 8) (
  lt_ (up_ v2 (x0 + 1) y1 0) fun v5 =>
  ck_ (0 ≤ y1 ∧ y1 < 8) (
  bd_ (fX8_tell ((x0 + 3) + (53 + 1 * y1)) 9 (-2) 0 0 v5) fun q9 =>
  ck_ (0 ≤ wr_ (y1 * 2) ∧ wr_ (y1 * 2) < 16) (
  lt_ (up_ q9.2 (x0 + 4) (wr_ (y1 * 2)) (-2)) fun v12 =>
  ck_ (0 ≤ wr_ ((wr_ (y1 * 2)) + 1) ∧ wr_ ((wr_ (y1 * 2)) + 1) < 16) (
  lt_ (up_ v12 (x0 + 4) (wr_ ((wr_ (y1 * 2)) + 1)) (-2)) fun v15 =>
  some (y1, v15)))))
theorem cX5_addBlock_ok (l : Launch) {E : En_} {sz : Int} (hC : Cl_ E.2.2.2.2.2 sz) {x0 : Int} {v : V_} {out : Int × V_} (T0 : (E.2.2.2.2.2 x0 ∧ ty_ x0 = 5 ∧ ln_ x0 = 0)) (h : fX5_addBlock x0 v = some out) : Met l yX5_addBlock [.code yX5_addBlock cX5_addBlock 2 (some FieldType.int)] (rm_ 1 24) (Pc_ E sz v [(2, x0)]) (Qc_ E sz 0 out.1 out.2) 0 0 (fun q => E.1 < q) := by
  refine met_G0 RX5 (by decide +kernel) rfl (Nat.le_of_ble_eq_true rfl) ?_
  intro p e s m args below meth c C hr hlk
  rw [fX5_addBlock] at h
  refine g_aload_n C (f := 0) dX5_addBlock_0 0 rfl ?_
  refine g_getf C (k := 0) (kd := 0) okX5 (by decide) kf_RX5_40 dX5_addBlock_1 (rg_ hC T0.1) T0.2.1 rfl ?_
  obtain ⟨y1, ey1, h⟩ := lt_e h
  refine g_set C ey1 ?_
  refine g_istore_n C (f := 1) (ls' := [(1, (0, y1)), (0, (2, x0))]) dX5_addBlock_4 (by decide) rfl ?_
  refine g_aload_n C (f := 0) dX5_addBlock_5 1 rfl ?_
  refine g_dup C (Nat.ne_of_beq_eq_false rfl) dX5_addBlock_6 ?_
  refine g_getf C (k := 0) (kd := 0) okX5 (by decide) kf_RX5_40 dX5_addBlock_7 (rg_ hC T0.1) T0.2.1 rfl ?_
  refine g_iconst C (n := 1) dX5_addBlock_10 (by decide) ?_
  refine g_iadd C dX5_addBlock_11 ?_
  obtain ⟨v2, ev2, h⟩ := lt_e h
  refine g_putf C (k := 0) (kd := 0) okX5 (by decide) kf_RX5_40 dX5_addBlock_12 (rg_ hC T0.1) T0.2.1 rfl rfl nvI (Or.inl rfl) v2 ev2 ?_
  refine g_aload_n C (f := 0) dX5_addBlock_15 1 rfl ?_
  have F3 := fX5_1 hC T0.1 T0.2.1
  refine g_getR C (k := 1) (o := 1) okX5 (by decide) kf_RX5_9 dX5_addBlock_16 hC T0.1 T0.2.1 rfl rfl ?_
  refine g_iload_n C (f := 1) dX5_addBlock_19 0 rfl ?_
  refine g_iconst C (n := 0) dX5_addBlock_20 (by decide) ?_
  obtain ⟨c4, h⟩ := ck_e h
  obtain ⟨v5, ev5, h⟩ := lt_e h
  refine g_iast C 8 dX5_addBlock_21 (rg_ hC F3.1) F3.2.1 F3.2.2 c4 v5 ev5 ?_
  refine g_aload_n C (f := 0) dX5_addBlock_22 1 rfl ?_
  have F6 := fX5_3 hC T0.1 T0.2.1
  refine g_getR C (k := 3) (o := 3) okX5 (by decide) kf_RX5_21 dX5_addBlock_23 hC T0.1 T0.2.1 rfl rfl ?_
  refine g_iload_n C (f := 1) dX5_addBlock_26 0 rfl ?_
  obtain ⟨c7, h⟩ := ck_e h
  have F8 := fE_ends (i := y1) hC F6.1 F6.2.1 F6.2.2 c7
  refine g_aald C 25 8 53 1 dX5_addBlock_27 hC F6.1 F6.2.1 F6.2.2 c7 (by decide) oA_ends ?_
  refine g_bipush C (n := 9) dX5_addBlock_28 (by decide) ?_
  refine g_bipush C (n := (-2)) dX5_addBlock_30 (by decide) ?_
  refine g_iconst C (n := 0) dX5_addBlock_32 (by decide) ?_
  refine g_iconst C (n := 0) dX5_addBlock_33 (by decide) ?_
  obtain ⟨q9, eq9, h⟩ := bd_e h
  refine g_cV C [(0, 9), (0, (-2)), (0, 0), (0, 0)] (cX8_tell_ok l hC F8 eq9) okX8 F8.2.1 (rg_ hC F8.1) km_RX5_50 cv_X8_tell rfl (by decide) rfl rfl (Nat.le_of_ble_eq_true rfl) dX5_addBlock_34 ?_
  refine g_aload_n C (f := 0) dX5_addBlock_37 1 rfl ?_
  have F10 := fX5_4 hC T0.1 T0.2.1
  refine g_getR C (k := 4) (o := 4) okX5 (by decide) kf_RX5_24 dX5_addBlock_38 hC T0.1 T0.2.1 rfl rfl ?_
  refine g_iload_n C (f := 1) dX5_addBlock_41 0 rfl ?_
  refine g_iconst C (n := 2) dX5_addBlock_42 (by decide) ?_
  refine g_imul C dX5_addBlock_43 ?_
  refine g_bipush C (n := (-2)) dX5_addBlock_44 (by decide) ?_
  obtain ⟨c11, h⟩ := ck_e h
  obtain ⟨v12, ev12, h⟩ := lt_e h
  refine g_iast C 16 dX5_addBlock_46 (rg_ hC F10.1) F10.2.1 F10.2.2 c11 v12 ev12 ?_
  refine g_aload_n C (f := 0) dX5_addBlock_47 1 rfl ?_
  have F13 := fX5_4 hC T0.1 T0.2.1
  refine g_getR C (k := 4) (o := 4) okX5 (by decide) kf_RX5_24 dX5_addBlock_48 hC T0.1 T0.2.1 rfl rfl ?_
  refine g_iload_n C (f := 1) dX5_addBlock_51 0 rfl ?_
  refine g_iconst C (n := 2) dX5_addBlock_52 (by decide) ?_
  refine g_imul C dX5_addBlock_53 ?_
  refine g_iconst C (n := 1) dX5_addBlock_54 (by decide) ?_
  refine g_iadd C dX5_addBlock_55 ?_
  refine g_bipush C (n := (-2)) dX5_addBlock_56 (by decide) ?_
  obtain ⟨c14, h⟩ := ck_e h
  obtain ⟨v15, ev15, h⟩ := lt_e h
  refine g_iast C 16 dX5_addBlock_58 (rg_ hC F13.1) F13.2.1 F13.2.2 c14 v15 ev15 ?_
  refine g_iload_n C (f := 1) dX5_addBlock_59 0 rfl ?_
  cases h
  exact g_iret C dX5_addBlock_60 hr hlk
theorem dX3_parseBlock_0 : decode cX3_parseBlock 0 = .ok (.aload_n 0, 1) := by decide +kernel
theorem dX3_parseBlock_1 : decode cX3_parseBlock 1 = .ok (.getfield 29, 3) := by decide +kernel
theorem dX3_parseBlock_4 : decode cX3_parseBlock 4 = .ok (.getfield 111, 3) := by decide +kernel
theorem dX3_parseBlock_7 : decode cX3_parseBlock 7 = .ok (.bipush 8, 2) := by decide +kernel
theorem dX3_parseBlock_9 : decode cX3_parseBlock 9 = .ok (.if_icmp .lt 9, 3) := by decide +kernel
theorem dX3_parseBlock_12 : decode cX3_parseBlock 12 = .ok (.aload_n 0, 1) := by decide +kernel
theorem dX3_parseBlock_13 : decode cX3_parseBlock 13 = .ok (.iconst 2, 1) := by decide +kernel
theorem dX3_parseBlock_14 : decode cX3_parseBlock 14 = .ok (.invokevirtual 71, 3) := by decide +kernel
theorem dX3_parseBlock_17 : decode cX3_parseBlock 17 = .ok (.return_, 1) := by decide +kernel
theorem dX3_parseBlock_18 : decode cX3_parseBlock 18 = .ok (.aload_n 0, 1) := by decide +kernel
theorem dX3_parseBlock_19 : decode cX3_parseBlock 19 = .ok (.invokevirtual 85, 3) := by decide +kernel
theorem dX3_parseBlock_22 : decode cX3_parseBlock 22 = .ok (.aload_n 0, 1) := by decide +kernel
theorem dX3_parseBlock_23 : decode cX3_parseBlock 23 = .ok (.getfield 29, 3) := by decide +kernel
theorem dX3_parseBlock_26 : decode cX3_parseBlock 26 = .ok (.invokevirtual 114, 3) := by decide +kernel
theorem dX3_parseBlock_29 : decode cX3_parseBlock 29 = .ok (.istore_n 1, 1) := by decide +kernel
theorem dX3_parseBlock_30 : decode cX3_parseBlock 30 = .ok (.aload_n 0, 1) := by decide +kernel
theorem dX3_parseBlock_31 : decode cX3_parseBlock 31 = .ok (.iload_n 1, 1) := by decide +kernel
theorem dX3_parseBlock_32 : decode cX3_parseBlock 32 = .ok (.invokevirtual 118, 3) := by decide +kernel
theorem dX3_parseBlock_35 : decode cX3_parseBlock 35 = .ok (.aload_n 0, 1) := by decide +kernel
theorem dX3_parseBlock_36 : decode cX3_parseBlock 36 = .ok (.bipush 59, 2) := by decide +kernel
theorem dX3_parseBlock_38 : decode cX3_parseBlock 38 = .ok (.invokevirtual 94, 3) := by decide +kernel
theorem dX3_parseBlock_41 : decode cX3_parseBlock 41 = .ok (.iconst 0, 1) := by decide +kernel
theorem dX3_parseBlock_42 : decode cX3_parseBlock 42 = .ok (.istore_n 2, 1) := by decide +kernel
theorem dX3_parseBlock_43 : decode cX3_parseBlock 43 = .ok (.iload_n 2, 1) := by decide +kernel
theorem dX3_parseBlock_44 : decode cX3_parseBlock 44 = .ok (.bipush 6, 2) := by decide +kernel
theorem dX3_parseBlock_46 : decode cX3_parseBlock 46 = .ok (.if_icmp .ge 21, 3) := by decide +kernel
theorem dX3_parseBlock_49 : decode cX3_parseBlock 49 = .ok (.aload_n 0, 1) := by decide +kernel
theorem dX3_parseBlock_50 : decode cX3_parseBlock 50 = .ok (.invokevirtual 121, 3) := by decide +kernel
theorem dX3_parseBlock_53 : decode cX3_parseBlock 53 = .ok (.ifCond .eq 14, 3) := by decide +kernel
theorem dX3_parseBlock_56 : decode cX3_parseBlock 56 = .ok (.aload_n 0, 1) := by decide +kernel
theorem dX3_parseBlock_57 : decode cX3_parseBlock 57 = .ok (.iload_n 1, 1) := by decide +kernel
theorem dX3_parseBlock_58 : decode cX3_parseBlock 58 = .ok (.invokevirtual 125, 3) := by decide +kernel
theorem dX3_parseBlock_61 : decode cX3_parseBlock 61 = .ok (.iinc 2 1, 3) := by decide +kernel
theorem dX3_parseBlock_64 : decode cX3_parseBlock 64 = .ok (.goto (-21), 3) := by decide +kernel
theorem dX3_parseBlock_67 : decode cX3_parseBlock 67 = .ok (.aload_n 0, 1) := by decide +kernel
theorem dX3_parseBlock_68 : decode cX3_parseBlock 68 = .ok (.invokevirtual 121, 3) := by decide +kernel
theorem dX3_parseBlock_71 : decode cX3_parseBlock 71 = .ok (.ifCond .eq 11, 3) := by decide +kernel
theorem dX3_parseBlock_74 : decode cX3_parseBlock 74 = .ok (.aload_n 0, 1) := by decide +kernel
theorem dX3_parseBlock_75 : decode cX3_parseBlock 75 = .ok (.iconst 2, 1) := by decide +kernel
theorem dX3_parseBlock_76 : decode cX3_parseBlock 76 = .ok (.invokevirtual 71, 3) := by decide +kernel
theorem dX3_parseBlock_79 : decode cX3_parseBlock 79 = .ok (.goto 8, 3) := by decide +kernel
theorem dX3_parseBlock_82 : decode cX3_parseBlock 82 = .ok (.aload_n 0, 1) := by decide +kernel
theorem dX3_parseBlock_83 : decode cX3_parseBlock 83 = .ok (.iload_n 1, 1) := by decide +kernel
theorem dX3_parseBlock_84 : decode cX3_parseBlock 84 = .ok (.invokevirtual 128, 3) := by decide +kernel
theorem dX3_parseBlock_87 : decode cX3_parseBlock 87 = .ok (.return_, 1) := by decide +kernel
def fX3_parseBlock_67 (x0 x1 : Int) (v : V_) : Option (Int × V_) :=
  bd_ (fX3_seesLine x0 v) fun q11 =>
  if q11.1 = 0 then (
    bd_ (fX3_parseEnd x0 x1 q11.2) fun q13 =>
    some (0, q13.2))
  else (
    bd_ (fX3_fail x0 2 q11.2) fun q14 =>
    some (0, q14.2))
def fX3_parseBlock_43 : Nat → Int → Int → Int → V_ → Option (Int × V_)
  | 0, _, _, _, _ => none
  | n + 1, x0, x1, x2, v =>
    if 6 ≤ x2 then (
      fX3_parseBlock_67 x0 x1 v)
    else (
      bd_ (fX3_seesLine x0 v) fun q15 =>
      if q15.1 = 0 then (
        fX3_parseBlock_67 x0 x1 q15.2)
      else (
        bd_ (fX3_parseLine x0 x1 q15.2) fun q17 =>
        lt_ (wr_ (x2 + 1)) fun y18 =>
        (fX3_parseBlock_43 n) x0 x1 y18 q17.2))
def fX3_parseBlock (x0 : Int) (v : V_) : Option (Int × V_) :=
  ck_ (v x0 4 = PA_ ∨ v x0 4 = PB_) (
  if (v (v x0 4) 0) < 8 then (
    bd_ (fX3_take x0 v) fun q4 =>
    ck_ (q4.2 x0 4 = PA_ ∨ q4.2 x0 4 = PB_) (
    bd_ (fX5_addBlock (q4.2 x0 4) q4.2) fun q7 =>
    bd_ (fX3_tellName x0 q7.1 q7.2) fun q8 =>
    bd_ (fX3_expect x0 59 q8.2) fun q9 =>
    fX3_parseBlock_43 fu_ x0 q7.1 0 q9.2))
  else (
    bd_ (fX3_fail x0 2 v) fun q19 =>
    some (0, q19.2)))
section
variable {E : En_} {p : Program} {l : Launch} {e : Env} {s : State} {m : MethodId} {args : Array Value} {below : List Frame} {meth : Method} {c : Code} {sz : Int}
theorem tX3_parseBlock_67 (C : MC_ E p s m c cX3_parseBlock 3 RX3) (hr : meth.sig.returnType = (none : Option FieldType)) (hlk : meth.locks = false) (hC : Cl_ E.2.2.2.2.2 sz) (hG : Pg_ E.2.2.2.2.2) {out : Int × V_} (x0 x1 : Int) (v : V_) (T0 : (E.2.2.2.2.2 x0 ∧ ty_ x0 = 3 ∧ ln_ x0 = 0)) (h : fX3_parseBlock_67 x0 x1 v = some out) : G_ E p l e (rm_ 5 109) s m args below meth c 3 sz (Q_ E below args s sz sz 9 out.1 out.2) 67 [(0, (2, x0)), (1, (0, x1))] [] v sz := by
  rw [fX3_parseBlock_67] at h
  refine g_aload_n C (f := 0) dX3_parseBlock_67 0 rfl ?_
  obtain ⟨q11, eq11, h⟩ := bd_e h
  refine g_cV C [] (cX3_seesLine_ok l hC hG T0 eq11) okX3 T0.2.1 (rg_ hC T0.1) km_RX3_121 cv_X3_seesLine rfl (by decide) rfl rfl (Nat.le_of_ble_eq_true rfl) dX3_parseBlock_68 ?_
  refine g_if_eq C 82 dX3_parseBlock_71 rfl (fun c12 => ?_) (fun c12 => ?_)
  · replace h := if_t h c12
    refine g_aload_n C (f := 0) dX3_parseBlock_82 0 rfl ?_
    refine g_iload_n C (f := 1) dX3_parseBlock_83 1 rfl ?_
    obtain ⟨q13, eq13, h⟩ := bd_e h
    refine g_cV C [(0, x1)] (cX3_parseEnd_ok l hC hG T0 eq13) okX3 T0.2.1 (rg_ hC T0.1) km_RX3_128 cv_X3_parseEnd rfl (by decide) rfl rfl (Nat.le_of_ble_eq_true rfl) dX3_parseBlock_84 ?_
    cases h
    exact g_vret C dX3_parseBlock_87 hr hlk
  · replace h := if_f h c12
    refine g_aload_n C (f := 0) dX3_parseBlock_74 0 rfl ?_
    refine g_iconst C (n := 2) dX3_parseBlock_75 (by decide) ?_
    obtain ⟨q14, eq14, h⟩ := bd_e h
    refine g_cV C [(0, 2)] (cX3_fail_ok l hC hG T0 eq14) okX3 T0.2.1 (rg_ hC T0.1) km_RX3_71 cv_X3_fail rfl (by decide) rfl rfl (Nat.le_of_ble_eq_true rfl) dX3_parseBlock_76 ?_
    refine g_goto C 87 dX3_parseBlock_79 rfl ?_
    cases h
    exact g_vret C dX3_parseBlock_87 hr hlk
theorem tX3_parseBlock_43 (C : MC_ E p s m c cX3_parseBlock 3 RX3) (hr : meth.sig.returnType = (none : Option FieldType)) (hlk : meth.locks = false) (hC : Cl_ E.2.2.2.2.2 sz) (hG : Pg_ E.2.2.2.2.2) {out : Int × V_} : ∀ (n : Nat) (x0 x1 x2 : Int) (v : V_), (E.2.2.2.2.2 x0 ∧ ty_ x0 = 3 ∧ ln_ x0 = 0) → fX3_parseBlock_43 n x0 x1 x2 v = some out → G_ E p l e (rm_ 5 109) s m args below meth c 3 sz (Q_ E below args s sz sz 9 out.1 out.2) 43 [(0, (2, x0)), (1, (0, x1)), (2, (0, x2))] [] v sz := by
  intro n
  induction n with
  | zero =>
    intro x0 x1 x2 v T0 h
    cases h
  | succ n H_43 =>
    intro x0 x1 x2 v T0 h
    rw [fX3_parseBlock_43] at h
    refine g_iload_n C (f := 2) dX3_parseBlock_43 2 rfl ?_
    refine g_bipush C (n := 6) dX3_parseBlock_44 (by decide) ?_
    refine g_icmp_ge C 67 dX3_parseBlock_46 rfl (fun c10 => ?_) (fun c10 => ?_)
    · replace h := if_t h c10
      refine g_sub [0, 1] rfl rfl ?_
      exact tX3_parseBlock_67 C hr hlk hC hG _ _ _ T0 h
    · replace h := if_f h c10
      refine g_aload_n C (f := 0) dX3_parseBlock_49 0 rfl ?_
      obtain ⟨q15, eq15, h⟩ := bd_e h
      refine g_cV C [] (cX3_seesLine_ok l hC hG T0 eq15) okX3 T0.2.1 (rg_ hC T0.1) km_RX3_121 cv_X3_seesLine rfl (by decide) rfl rfl (Nat.le_of_ble_eq_true rfl) dX3_parseBlock_50 ?_
      refine g_if_eq C 67 dX3_parseBlock_53 rfl (fun c16 => ?_) (fun c16 => ?_)
      · replace h := if_t h c16
        refine g_sub [0, 1] rfl rfl ?_
        exact tX3_parseBlock_67 C hr hlk hC hG _ _ _ T0 h
      · replace h := if_f h c16
        refine g_aload_n C (f := 0) dX3_parseBlock_56 0 rfl ?_
        refine g_iload_n C (f := 1) dX3_parseBlock_57 1 rfl ?_
        obtain ⟨q17, eq17, h⟩ := bd_e h
        refine g_cV C [(0, x1)] (cX3_parseLine_ok l hC hG T0 eq17) okX3 T0.2.1 (rg_ hC T0.1) km_RX3_125 cv_X3_parseLine rfl (by decide) rfl rfl (Nat.le_of_ble_eq_true rfl) dX3_parseBlock_58 ?_
        obtain ⟨y18, ey18, h⟩ := lt_e h
        refine g_iincx C (ls' := [(2, (0, y18)), (0, (2, x0)), (1, (0, x1))]) ey18 dX3_parseBlock_61 2 rfl (by decide) (by decide) rfl ?_
        refine g_goto C 43 dX3_parseBlock_64 rfl ?_
        refine g_sub [1, 2, 0] rfl rfl ?_
        exact H_43 _ _ _ _ T0 h
end
theorem cX3_parseBlock_ok (l : Launch) {E : En_} {sz : Int} (hC : Cl_ E.2.2.2.2.2 sz) (hG : Pg_ E.2.2.2.2.2) {x0 : Int} {v : V_} {out : Int × V_} (T0 : (E.2.2.2.2.2 x0 ∧ ty_ x0 = 3 ∧ ln_ x0 = 0)) (h : fX3_parseBlock x0 v = some out) : Met l yX3_parseBlock [.code yX3_parseBlock cX3_parseBlock 3 (none : Option FieldType)] (rm_ 5 109) (Pc_ E sz v [(2, x0)]) (Qc_ E sz 9 out.1 out.2) 0 0 (fun q => E.1 < q) := by
  refine met_G0 RX3 (by decide +kernel) rfl (Nat.le_of_ble_eq_true rfl) ?_
  intro p e s m args below meth c C hr hlk
  rw [fX3_parseBlock] at h
  refine g_aload_n C (f := 0) dX3_parseBlock_0 0 rfl ?_
  obtain ⟨c1, h⟩ := ck_e h
  refine g_getf C (k := 4) (kd := 2) okX3 (by decide) kf_RX3_29 dX3_parseBlock_1 (rg_ hC T0.1) T0.2.1 rfl ?_
  have F2 := pgF_ hG c1
  refine g_getf C (k := 0) (kd := 0) okX5 (by decide) kf_RX3_111 dX3_parseBlock_4 (rg_ hC F2.1) F2.2.1 rfl ?_
  refine g_bipush C (n := 8) dX3_parseBlock_7 (by decide) ?_
  refine g_icmp_lt C 18 dX3_parseBlock_9 rfl (fun c3 => ?_) (fun c3 => ?_)
  · replace h := if_t h c3
    refine g_aload_n C (f := 0) dX3_parseBlock_18 0 rfl ?_
    obtain ⟨q4, eq4, h⟩ := bd_e h
    refine g_cV C [] (cX3_take_ok l hC hG T0 eq4) okX3 T0.2.1 (rg_ hC T0.1) km_RX3_85 cv_X3_take rfl (by decide) rfl rfl (Nat.le_of_ble_eq_true rfl) dX3_parseBlock_19 ?_
    refine g_aload_n C (f := 0) dX3_parseBlock_22 0 rfl ?_
    obtain ⟨c5, h⟩ := ck_e h
    refine g_getf C (k := 4) (kd := 2) okX3 (by decide) kf_RX3_29 dX3_parseBlock_23 (rg_ hC T0.1) T0.2.1 rfl ?_
    have F6 := pgF_ hG c5
    obtain ⟨q7, eq7, h⟩ := bd_e h
    refine g_cV C [] (cX5_addBlock_ok l hC F6 eq7) okX5 F6.2.1 (rg_ hC F6.1) km_RX3_114 cv_X5_addBlock rfl (by decide) rfl rfl (Nat.le_of_ble_eq_true rfl) dX3_parseBlock_26 ?_
    refine g_istore_n C (f := 1) (ls' := [(1, (0, q7.1)), (0, (2, x0))]) dX3_parseBlock_29 (by decide) rfl ?_
    refine g_aload_n C (f := 0) dX3_parseBlock_30 1 rfl ?_
    refine g_iload_n C (f := 1) dX3_parseBlock_31 0 rfl ?_
    obtain ⟨q8, eq8, h⟩ := bd_e h
    refine g_cV C [(0, q7.1)] (cX3_tellName_ok l hC hG T0 eq8) okX3 T0.2.1 (rg_ hC T0.1) km_RX3_118 cv_X3_tellName rfl (by decide) rfl rfl (Nat.le_of_ble_eq_true rfl) dX3_parseBlock_32 ?_
    refine g_aload_n C (f := 0) dX3_parseBlock_35 1 rfl ?_
    refine g_bipush C (n := 59) dX3_parseBlock_36 (by decide) ?_
    obtain ⟨q9, eq9, h⟩ := bd_e h
    refine g_cV C [(0, 59)] (cX3_expect_ok l hC hG T0 eq9) okX3 T0.2.1 (rg_ hC T0.1) km_RX3_94 cv_X3_expect rfl (by decide) rfl rfl (Nat.le_of_ble_eq_true rfl) dX3_parseBlock_38 ?_
    refine g_iconst C (n := 0) dX3_parseBlock_41 (by decide) ?_
    refine g_istore_n C (f := 2) (ls' := [(2, (0, 0)), (1, (0, q7.1)), (0, (2, x0))]) dX3_parseBlock_42 (by decide) rfl ?_
    refine g_sub [2, 1, 0] rfl rfl ?_
    exact tX3_parseBlock_43 C hr hlk hC hG _ _ _ _ _ T0 h
  · replace h := if_f h c3
    refine g_aload_n C (f := 0) dX3_parseBlock_12 0 rfl ?_
    refine g_iconst C (n := 2) dX3_parseBlock_13 (by decide) ?_
    obtain ⟨q19, eq19, h⟩ := bd_e h
    refine g_cV C [(0, 2)] (cX3_fail_ok l hC hG T0 eq19) okX3 T0.2.1 (rg_ hC T0.1) km_RX3_71 cv_X3_fail rfl (by decide) rfl rfl (Nat.le_of_ble_eq_true rfl) dX3_parseBlock_14 ?_
    cases h
    exact g_vret C dX3_parseBlock_17 hr hlk
