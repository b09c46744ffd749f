theorem dX12_block_0 : decode cX12_block 0 = .ok (.aload_n 0, 1) := by decide +kernel
theorem dX12_block_1 : decode cX12_block 1 = .ok (.iload_n 1, 1) := by decide +kernel
theorem dX12_block_2 : decode cX12_block 2 = .ok (.invokevirtual 415, 3) := by decide +kernel
theorem dX12_block_5 : decode cX12_block 5 = .ok (.ifCond .eq 13, 3) := by decide +kernel
theorem dX12_block_8 : decode cX12_block 8 = .ok (.iload_n 2, 1) := by decide +kernel
theorem dX12_block_9 : decode cX12_block 9 = .ok (.iconst 0, 1) := by decide +kernel
theorem dX12_block_10 : decode cX12_block 10 = .ok (.bipush 8, 2) := by decide +kernel
theorem dX12_block_12 : decode cX12_block 12 = .ok (.invokestatic 334, 3) := by decide +kernel
theorem dX12_block_15 : decode cX12_block 15 = .ok (.ifCond .ne 5, 3) := by decide +kernel
theorem dX12_block_18 : decode cX12_block 18 = .ok (.iconst (-1), 1) := by decide +kernel
theorem dX12_block_19 : decode cX12_block 19 = .ok (.ireturn, 1) := by decide +kernel
theorem dX12_block_20 : decode cX12_block 20 = .ok (.aload_n 0, 1) := by decide +kernel
theorem dX12_block_21 : decode cX12_block 21 = .ok (.invokevirtual 542, 3) := by decide +kernel
theorem dX12_block_24 : decode cX12_block 24 = .ok (.iload_n 2, 1) := by decide +kernel
theorem dX12_block_25 : decode cX12_block 25 = .ok (.tableswitch 127 0 7 #[47, 53, 59, 65, 85, 106, 113, 120], 47) := by decide +kernel
theorem dX12_block_72 : decode cX12_block 72 = .ok (.aload_n 0, 1) := by decide +kernel
theorem dX12_block_73 : decode cX12_block 73 = .ok (.iload_n 1, 1) := by decide +kernel
theorem dX12_block_74 : decode cX12_block 74 = .ok (.invokevirtual 359, 3) := by decide +kernel
theorem dX12_block_77 : decode cX12_block 77 = .ok (.ireturn, 1) := by decide +kernel
theorem dX12_block_78 : decode cX12_block 78 = .ok (.aload_n 0, 1) := by decide +kernel
theorem dX12_block_79 : decode cX12_block 79 = .ok (.iload_n 1, 1) := by decide +kernel
theorem dX12_block_80 : decode cX12_block 80 = .ok (.invokevirtual 338, 3) := by decide +kernel
theorem dX12_block_83 : decode cX12_block 83 = .ok (.ireturn, 1) := by decide +kernel
theorem dX12_block_84 : decode cX12_block 84 = .ok (.aload_n 0, 1) := by decide +kernel
theorem dX12_block_85 : decode cX12_block 85 = .ok (.iload_n 1, 1) := by decide +kernel
theorem dX12_block_86 : decode cX12_block 86 = .ok (.invokevirtual 418, 3) := by decide +kernel
theorem dX12_block_89 : decode cX12_block 89 = .ok (.ireturn, 1) := by decide +kernel
theorem dX12_block_90 : decode cX12_block 90 = .ok (.aload_n 0, 1) := by decide +kernel
theorem dX12_block_91 : decode cX12_block 91 = .ok (.iload_n 1, 1) := by decide +kernel
theorem dX12_block_92 : decode cX12_block 92 = .ok (.invokevirtual 393, 3) := by decide +kernel
theorem dX12_block_95 : decode cX12_block 95 = .ok (.ifCond .le 12, 3) := by decide +kernel
theorem dX12_block_98 : decode cX12_block 98 = .ok (.aload_n 0, 1) := by decide +kernel
theorem dX12_block_99 : decode cX12_block 99 = .ok (.iload_n 1, 1) := by decide +kernel
theorem dX12_block_100 : decode cX12_block 100 = .ok (.iconst 0, 1) := by decide +kernel
theorem dX12_block_101 : decode cX12_block 101 = .ok (.invokevirtual 378, 3) := by decide +kernel
theorem dX12_block_104 : decode cX12_block 104 = .ok (.goto 5, 3) := by decide +kernel
theorem dX12_block_107 : decode cX12_block 107 = .ok (.bipush (-2), 2) := by decide +kernel
theorem dX12_block_109 : decode cX12_block 109 = .ok (.ireturn, 1) := by decide +kernel
theorem dX12_block_110 : decode cX12_block 110 = .ok (.aload_n 0, 1) := by decide +kernel
theorem dX12_block_111 : decode cX12_block 111 = .ok (.iload_n 1, 1) := by decide +kernel
theorem dX12_block_112 : decode cX12_block 112 = .ok (.invokevirtual 393, 3) := by decide +kernel
theorem dX12_block_115 : decode cX12_block 115 = .ok (.iconst 1, 1) := by decide +kernel
theorem dX12_block_116 : decode cX12_block 116 = .ok (.if_icmp .le 12, 3) := by decide +kernel
theorem dX12_block_119 : decode cX12_block 119 = .ok (.aload_n 0, 1) := by decide +kernel
theorem dX12_block_120 : decode cX12_block 120 = .ok (.iload_n 1, 1) := by decide +kernel
theorem dX12_block_121 : decode cX12_block 121 = .ok (.iconst 1, 1) := by decide +kernel
theorem dX12_block_122 : decode cX12_block 122 = .ok (.invokevirtual 378, 3) := by decide +kernel
theorem dX12_block_125 : decode cX12_block 125 = .ok (.goto 5, 3) := by decide +kernel
theorem dX12_block_128 : decode cX12_block 128 = .ok (.bipush (-2), 2) := by decide +kernel
theorem dX12_block_130 : decode cX12_block 130 = .ok (.ireturn, 1) := by decide +kernel
theorem dX12_block_131 : decode cX12_block 131 = .ok (.aload_n 0, 1) := by decide +kernel
theorem dX12_block_132 : decode cX12_block 132 = .ok (.getfield 103, 3) := by decide +kernel
theorem dX12_block_135 : decode cX12_block 135 = .ok (.iload_n 1, 1) := by decide +kernel
theorem dX12_block_136 : decode cX12_block 136 = .ok (.iaload, 1) := by decide +kernel
theorem dX12_block_137 : decode cX12_block 137 = .ok (.ireturn, 1) := by decide +kernel
theorem dX12_block_138 : decode cX12_block 138 = .ok (.aload_n 0, 1) := by decide +kernel
theorem dX12_block_139 : decode cX12_block 139 = .ok (.getfield 106, 3) := by decide +kernel
theorem dX12_block_142 : decode cX12_block 142 = .ok (.iload_n 1, 1) := by decide +kernel
theorem dX12_block_143 : decode cX12_block 143 = .ok (.iaload, 1) := by decide +kernel
theorem dX12_block_144 : decode cX12_block 144 = .ok (.ireturn, 1) := by decide +kernel
theorem dX12_block_145 : decode cX12_block 145 = .ok (.aload_n 0, 1) := by decide +kernel
theorem dX12_block_146 : decode cX12_block 146 = .ok (.getfield 109, 3) := by decide +kernel
theorem dX12_block_149 : decode cX12_block 149 = .ok (.iload_n 1, 1) := by decide +kernel
theorem dX12_block_150 : decode cX12_block 150 = .ok (.iaload, 1) := by decide +kernel
theorem dX12_block_151 : decode cX12_block 151 = .ok (.ireturn, 1) := by decide +kernel
theorem dX12_block_152 : decode cX12_block 152 = .ok (.aload_n 0, 1) := by decide +kernel
theorem dX12_block_153 : decode cX12_block 153 = .ok (.invokevirtual 545, 3) := by decide +kernel
theorem dX12_block_156 : decode cX12_block 156 = .ok (.iload_n 1, 1) := by decide +kernel
theorem dX12_block_157 : decode cX12_block 157 = .ok (.ishr, 1) := by decide +kernel
theorem dX12_block_158 : decode cX12_block 158 = .ok (.iconst 1, 1) := by decide +kernel
theorem dX12_block_159 : decode cX12_block 159 = .ok (.iand, 1) := by decide +kernel
theorem dX12_block_160 : decode cX12_block 160 = .ok (.ireturn, 1) := by decide +kernel
def fX12_block (x0 x1 x2 : Int) (v : V_) : Option (Int × V_) :=
  bd_ (fX12_isBlock x0 x1 v) fun q1 =>
  if q1.1 = 0 then (
    some ((-1), q1.2))
  else (
    bd_ (fX12_in x2 0 8 q1.2) fun q3 =>
    if q3.1 = 0 then (
      some ((-1), q3.2))
    else (
      bd_ (fX12_plansAll x0 q3.2) fun q5 =>
      if x2 = 0 then (
        bd_ (fX12_linesOf x0 x1 q5.2) fun q7 =>
        some (q7.1, q7.2))
      else (
      if x2 = 1 then (
        bd_ (fX12_endOf x0 x1 q5.2) fun q9 =>
        some (q9.1, q9.2))
      else (
      if x2 = 2 then (
        bd_ (fX12_begunOf x0 x1 q5.2) fun q11 =>
        some (q11.1, q11.2))
      else (
      if x2 = 3 then (
        bd_ (fX12_waysOf x0 x1 q5.2) fun q13 =>
        if q13.1 ≤ 0 then (
          some ((-2), q13.2))
        else (
          bd_ (fX12_wayTo x0 x1 0 q13.2) fun q15 =>
          some (q15.1, q15.2)))
      else (
      if x2 = 4 then (
        bd_ (fX12_waysOf x0 x1 q5.2) fun q17 =>
        if q17.1 ≤ 1 then (
          some ((-2), q17.2))
        else (
          bd_ (fX12_wayTo x0 x1 1 q17.2) fun q19 =>
          some (q19.1, q19.2)))
      else (
      if x2 = 5 then (
        ck_ (0 ≤ x1 ∧ x1 < 8) (
        some (q5.2 (x0 + 29) x1, q5.2)))
      else (
      if x2 = 6 then (
        ck_ (0 ≤ x1 ∧ x1 < 8) (
        some (q5.2 (x0 + 30) x1, q5.2)))
      else (
      if x2 = 7 then (
        ck_ (0 ≤ x1 ∧ x1 < 8) (
        some (q5.2 (x0 + 31) x1, q5.2)))
      else (
      bd_ (fX12_joinedBits x0 q5.2) fun q29 =>
      some (bA_ (sR_ q29.1 x1) 1, q29.2)))))))))))
theorem cX12_block_ok (l : Launch) {E : En_} {sz : Int} (hC : Cl_ E.2.2.2.2.2 sz) {x0 x1 x2 : Int} {v : V_} {out : Int × V_} (T0 : (E.2.2.2.2.2 x0 ∧ ty_ x0 = 12 ∧ ln_ x0 = 0)) (h : fX12_block x0 x1 x2 v = some out) : Met l yX12_block [.code yX12_block cX12_block 3 (some FieldType.int)] (rm_ 6 133) (Pc_ E sz v [(2, x0), (0, x1), (0, x2)]) (Qc_ E sz 0 out.1 out.2) 0 0 (fun q => E.1 < q) := by
  refine met_G0 RX12 (by decide +kernel) rfl (Nat.le_of_ble_eq_true rfl) ?_
  intro p e s m args below meth c C hr hlk
  rw [fX12_block] at h
  refine g_aload_n C (f := 0) dX12_block_0 0 rfl ?_
  refine g_iload_n C (f := 1) dX12_block_1 1 rfl ?_
  obtain ⟨q1, eq1, h⟩ := bd_e h
  refine g_cV C [(0, x1)] (cX12_isBlock_ok l hC T0 eq1) okX12 T0.2.1 (rg_ hC T0.1) km_RX12_415 cv_X12_isBlock rfl (by decide) rfl rfl (Nat.le_of_ble_eq_true rfl) dX12_block_2 ?_
  refine g_if_eq C 18 dX12_block_5 rfl (fun c2 => ?_) (fun c2 => ?_)
  · replace h := if_t h c2
    refine g_iconst C (n := (-1)) dX12_block_18 (by decide) ?_
    cases h
    exact g_iret C dX12_block_19 hr hlk
  · replace h := if_f h c2
    refine g_iload_n C (f := 2) dX12_block_8 2 rfl ?_
    refine g_iconst C (n := 0) dX12_block_9 (by decide) ?_
    refine g_bipush C (n := 8) dX12_block_10 (by decide) ?_
    obtain ⟨q3, eq3, h⟩ := bd_e h
    refine g_cS C [(0, x2), (0, 0), (0, 8)] (cX12_in_ok l hC eq3) km_RX12_334 cs_X12_in rfl (by decide) rfl rfl (Nat.le_of_ble_eq_true rfl) dX12_block_12 ?_
    refine g_if_ne C 20 dX12_block_15 rfl (fun c4 => ?_) (fun c4 => ?_)
    · replace h := if_f h c4
      refine g_aload_n C (f := 0) dX12_block_20 0 rfl ?_
      obtain ⟨q5, eq5, h⟩ := bd_e h
      refine g_cV C [] (cX12_plansAll_ok l hC T0 eq5) okX12 T0.2.1 (rg_ hC T0.1) km_RX12_542 cv_X12_plansAll rfl (by decide) rfl rfl (Nat.le_of_ble_eq_true rfl) dX12_block_21 ?_
      refine g_iload_n C (f := 2) dX12_block_24 2 rfl ?_
      by_cases c6 : x2 = 0
      · replace h := if_t h c6
        refine g_tin C 72 dX12_block_25 0 c6 (by decide) (by decide) rfl rfl ?_
        refine g_aload_n C (f := 0) dX12_block_72 0 rfl ?_
        refine g_iload_n C (f := 1) dX12_block_73 1 rfl ?_
        obtain ⟨q7, eq7, h⟩ := bd_e h
        refine g_cV C [(0, x1)] (cX12_linesOf_ok l hC T0 eq7) okX12 T0.2.1 (rg_ hC T0.1) km_RX12_359 cv_X12_linesOf rfl (by decide) rfl rfl (Nat.le_of_ble_eq_true rfl) dX12_block_74 ?_
        cases h
        exact g_iret C dX12_block_77 hr hlk
      replace h := if_f h c6
      by_cases c8 : x2 = 1
      · replace h := if_t h c8
        refine g_tin C 78 dX12_block_25 1 c8 (by decide) (by decide) rfl rfl ?_
        refine g_aload_n C (f := 0) dX12_block_78 0 rfl ?_
        refine g_iload_n C (f := 1) dX12_block_79 1 rfl ?_
        obtain ⟨q9, eq9, h⟩ := bd_e h
        refine g_cV C [(0, x1)] (cX12_endOf_ok l hC T0 eq9) okX12 T0.2.1 (rg_ hC T0.1) km_RX12_338 cv_X12_endOf rfl (by decide) rfl rfl (Nat.le_of_ble_eq_true rfl) dX12_block_80 ?_
        cases h
        exact g_iret C dX12_block_83 hr hlk
      replace h := if_f h c8
      by_cases c10 : x2 = 2
      · replace h := if_t h c10
        refine g_tin C 84 dX12_block_25 2 c10 (by decide) (by decide) rfl rfl ?_
        refine g_aload_n C (f := 0) dX12_block_84 0 rfl ?_
        refine g_iload_n C (f := 1) dX12_block_85 1 rfl ?_
        obtain ⟨q11, eq11, h⟩ := bd_e h
        refine g_cV C [(0, x1)] (cX12_begunOf_ok l hC T0 eq11) okX12 T0.2.1 (rg_ hC T0.1) km_RX12_418 cv_X12_begunOf rfl (by decide) rfl rfl (Nat.le_of_ble_eq_true rfl) dX12_block_86 ?_
        cases h
        exact g_iret C dX12_block_89 hr hlk
      replace h := if_f h c10
      by_cases c12 : x2 = 3
      · replace h := if_t h c12
        refine g_tin C 90 dX12_block_25 3 c12 (by decide) (by decide) rfl rfl ?_
        refine g_aload_n C (f := 0) dX12_block_90 0 rfl ?_
        refine g_iload_n C (f := 1) dX12_block_91 1 rfl ?_
        obtain ⟨q13, eq13, h⟩ := bd_e h
        refine g_cV C [(0, x1)] (cX12_waysOf_ok l hC T0 eq13) okX12 T0.2.1 (rg_ hC T0.1) km_RX12_393 cv_X12_waysOf rfl (by decide) rfl rfl (Nat.le_of_ble_eq_true rfl) dX12_block_92 ?_
        refine g_if_le C 107 dX12_block_95 rfl (fun c14 => ?_) (fun c14 => ?_)
        · replace h := if_t h c14
          refine g_bipush C (n := (-2)) dX12_block_107 (by decide) ?_
          cases h
          exact g_iret C dX12_block_109 hr hlk
        · replace h := if_f h c14
          refine g_aload_n C (f := 0) dX12_block_98 0 rfl ?_
          refine g_iload_n C (f := 1) dX12_block_99 1 rfl ?_
          refine g_iconst C (n := 0) dX12_block_100 (by decide) ?_
          obtain ⟨q15, eq15, h⟩ := bd_e h
          refine g_cV C [(0, x1), (0, 0)] (cX12_wayTo_ok l hC T0 eq15) okX12 T0.2.1 (rg_ hC T0.1) km_RX12_378 cv_X12_wayTo rfl (by decide) rfl rfl (Nat.le_of_ble_eq_true rfl) dX12_block_101 ?_
          refine g_goto C 109 dX12_block_104 rfl ?_
          cases h
          exact g_iret C dX12_block_109 hr hlk
      replace h := if_f h c12
      by_cases c16 : x2 = 4
      · replace h := if_t h c16
        refine g_tin C 110 dX12_block_25 4 c16 (by decide) (by decide) rfl rfl ?_
        refine g_aload_n C (f := 0) dX12_block_110 0 rfl ?_
        refine g_iload_n C (f := 1) dX12_block_111 1 rfl ?_
        obtain ⟨q17, eq17, h⟩ := bd_e h
        refine g_cV C [(0, x1)] (cX12_waysOf_ok l hC T0 eq17) okX12 T0.2.1 (rg_ hC T0.1) km_RX12_393 cv_X12_waysOf rfl (by decide) rfl rfl (Nat.le_of_ble_eq_true rfl) dX12_block_112 ?_
        refine g_iconst C (n := 1) dX12_block_115 (by decide) ?_
        refine g_icmp_le C 128 dX12_block_116 rfl (fun c18 => ?_) (fun c18 => ?_)
        · replace h := if_t h c18
          refine g_bipush C (n := (-2)) dX12_block_128 (by decide) ?_
          cases h
          exact g_iret C dX12_block_130 hr hlk
        · replace h := if_f h c18
          refine g_aload_n C (f := 0) dX12_block_119 0 rfl ?_
          refine g_iload_n C (f := 1) dX12_block_120 1 rfl ?_
          refine g_iconst C (n := 1) dX12_block_121 (by decide) ?_
          obtain ⟨q19, eq19, h⟩ := bd_e h
          refine g_cV C [(0, x1), (0, 1)] (cX12_wayTo_ok l hC T0 eq19) okX12 T0.2.1 (rg_ hC T0.1) km_RX12_378 cv_X12_wayTo rfl (by decide) rfl rfl (Nat.le_of_ble_eq_true rfl) dX12_block_122 ?_
          refine g_goto C 130 dX12_block_125 rfl ?_
          cases h
          exact g_iret C dX12_block_130 hr hlk
      replace h := if_f h c16
      by_cases c20 : x2 = 5
      · replace h := if_t h c20
        refine g_tin C 131 dX12_block_25 5 c20 (by decide) (by decide) rfl rfl ?_
        refine g_aload_n C (f := 0) dX12_block_131 0 rfl ?_
        have F21 := fX12_47 hC T0.1 T0.2.1
        refine g_getR C (k := 47) (o := 29) okX12 (by decide) kf_RX12_103 dX12_block_132 hC T0.1 T0.2.1 rfl rfl ?_
        refine g_iload_n C (f := 1) dX12_block_135 1 rfl ?_
        obtain ⟨c22, h⟩ := ck_e h
        refine g_iald C 8 dX12_block_136 (rg_ hC F21.1) F21.2.1 F21.2.2 c22 ?_
        cases h
        exact g_iret C dX12_block_137 hr hlk
      replace h := if_f h c20
      by_cases c23 : x2 = 6
      · replace h := if_t h c23
        refine g_tin C 138 dX12_block_25 6 c23 (by decide) (by decide) rfl rfl ?_
        refine g_aload_n C (f := 0) dX12_block_138 0 rfl ?_
        have F24 := fX12_48 hC T0.1 T0.2.1
        refine g_getR C (k := 48) (o := 30) okX12 (by decide) kf_RX12_106 dX12_block_139 hC T0.1 T0.2.1 rfl rfl ?_
        refine g_iload_n C (f := 1) dX12_block_142 1 rfl ?_
        obtain ⟨c25, h⟩ := ck_e h
        refine g_iald C 8 dX12_block_143 (rg_ hC F24.1) F24.2.1 F24.2.2 c25 ?_
        cases h
        exact g_iret C dX12_block_144 hr hlk
      replace h := if_f h c23
      by_cases c26 : x2 = 7
      · replace h := if_t h c26
        refine g_tin C 145 dX12_block_25 7 c26 (by decide) (by decide) rfl rfl ?_
        refine g_aload_n C (f := 0) dX12_block_145 0 rfl ?_
        have F27 := fX12_49 hC T0.1 T0.2.1
        refine g_getR C (k := 49) (o := 31) okX12 (by decide) kf_RX12_109 dX12_block_146 hC T0.1 T0.2.1 rfl rfl ?_
        refine g_iload_n C (f := 1) dX12_block_149 1 rfl ?_
        obtain ⟨c28, h⟩ := ck_e h
        refine g_iald C 8 dX12_block_150 (rg_ hC F27.1) F27.2.1 F27.2.2 c28 ?_
        cases h
        exact g_iret C dX12_block_151 hr hlk
      replace h := if_f h c26
      refine g_tdef C (x := x2) 152 dX12_block_25 (by intro a ha h1 h2; exact absurd h2 (by omega)) rfl ?_
      refine g_aload_n C (f := 0) dX12_block_152 0 rfl ?_
      obtain ⟨q29, eq29, h⟩ := bd_e h
      refine g_cV C [] (cX12_joinedBits_ok l hC T0 eq29) okX12 T0.2.1 (rg_ hC T0.1) km_RX12_545 cv_X12_joinedBits rfl (by decide) rfl rfl (Nat.le_of_ble_eq_true rfl) dX12_block_153 ?_
      refine g_iload_n C (f := 1) dX12_block_156 1 rfl ?_
      refine g_ishr C dX12_block_157 ?_
      refine g_iconst C (n := 1) dX12_block_158 (by decide) ?_
      refine g_iand C dX12_block_159 ?_
      cases h
      exact g_iret C dX12_block_160 hr hlk
    · replace h := if_t h c4
      refine g_iconst C (n := (-1)) dX12_block_18 (by decide) ?_
      cases h
      exact g_iret C dX12_block_19 hr hlk
theorem dX12_fail_0 : decode cX12_fail 0 = .ok (.aload_n 0, 1) := by decide +kernel
theorem dX12_fail_1 : decode cX12_fail 1 = .ok (.getfield 245, 3) := by decide +kernel
theorem dX12_fail_4 : decode cX12_fail 4 = .ok (.ifCond .le 4, 3) := by decide +kernel
theorem dX12_fail_7 : decode cX12_fail 7 = .ok (.return_, 1) := by decide +kernel
theorem dX12_fail_8 : decode cX12_fail 8 = .ok (.aload_n 0, 1) := by decide +kernel
theorem dX12_fail_9 : decode cX12_fail 9 = .ok (.iload_n 1, 1) := by decide +kernel
theorem dX12_fail_10 : decode cX12_fail 10 = .ok (.putfield 245, 3) := by decide +kernel
theorem dX12_fail_13 : decode cX12_fail 13 = .ok (.aload_n 0, 1) := by decide +kernel
theorem dX12_fail_14 : decode cX12_fail 14 = .ok (.aload_n 0, 1) := by decide +kernel
theorem dX12_fail_15 : decode cX12_fail 15 = .ok (.getfield 24, 3) := by decide +kernel
theorem dX12_fail_18 : decode cX12_fail 18 = .ok (.aload_n 0, 1) := by decide +kernel
theorem dX12_fail_19 : decode cX12_fail 19 = .ok (.getfield 248, 3) := by decide +kernel
theorem dX12_fail_22 : decode cX12_fail 22 = .ok (.iaload, 1) := by decide +kernel
theorem dX12_fail_23 : decode cX12_fail 23 = .ok (.putfield 251, 3) := by decide +kernel
theorem dX12_fail_26 : decode cX12_fail 26 = .ok (.return_, 1) := by decide +kernel
def fX12_fail (x0 x1 : Int) (v : V_) : Option (Int × V_) :=
  if (v x0 13) ≤ 0 then (
    lt_ (up_ v x0 13 x1) fun v2 =>
    ck_ (0 ≤ v2 x0 11 ∧ v2 x0 11 < 403) (
    lt_ (up_ v2 x0 14 (v2 (x0 + 4) (v2 x0 11))) fun v5 =>
    some (0, v5)))
  else (
    some (0, v))
theorem cX12_fail_ok (l : Launch) {E : En_} {sz : Int} (hC : Cl_ E.2.2.2.2.2 sz) {x0 x1 : Int} {v : V_} {out : Int × V_} (T0 : (E.2.2.2.2.2 x0 ∧ ty_ x0 = 12 ∧ ln_ x0 = 0)) (h : fX12_fail x0 x1 v = some out) : Met l yX12_fail [.code yX12_fail cX12_fail 2 (none : Option FieldType)] (rm_ 0 0) (Pc_ E sz v [(2, x0), (0, x1)]) (Qc_ E sz 9 out.1 out.2) 0 0 (fun q => E.1 < q) := by
  refine met_G0 RX12 (by decide +kernel) rfl (Nat.le_of_ble_eq_true rfl) ?_
  intro p e s m args below meth c C hr hlk
  rw [fX12_fail] at h
  refine g_aload_n C (f := 0) dX12_fail_0 0 rfl ?_
  refine g_getf C (k := 13) (kd := 0) okX12 (by decide) kf_RX12_245 dX12_fail_1 (rg_ hC T0.1) T0.2.1 rfl ?_
  refine g_if_le C 8 dX12_fail_4 rfl (fun c1 => ?_) (fun c1 => ?_)
  · replace h := if_t h c1
    refine g_aload_n C (f := 0) dX12_fail_8 0 rfl ?_
    refine g_iload_n C (f := 1) dX12_fail_9 1 rfl ?_
    obtain ⟨v2, ev2, h⟩ := lt_e h
    refine g_putf C (k := 13) (kd := 0) okX12 (by decide) kf_RX12_245 dX12_fail_10 (rg_ hC T0.1) T0.2.1 rfl rfl nvI (Or.inl rfl) v2 ev2 ?_
    refine g_aload_n C (f := 0) dX12_fail_13 0 rfl ?_
    refine g_aload_n C (f := 0) dX12_fail_14 0 rfl ?_
    have F3 := fX12_6 hC T0.1 T0.2.1
    refine g_getR C (k := 6) (o := 4) okX12 (by decide) kf_RX12_24 dX12_fail_15 hC T0.1 T0.2.1 rfl rfl ?_
    refine g_aload_n C (f := 0) dX12_fail_18 0 rfl ?_
    refine g_getf C (k := 11) (kd := 0) okX12 (by decide) kf_RX12_248 dX12_fail_19 (rg_ hC T0.1) T0.2.1 rfl ?_
    obtain ⟨c4, h⟩ := ck_e h
    refine g_iald C 403 dX12_fail_22 (rg_ hC F3.1) F3.2.1 F3.2.2 c4 ?_
    obtain ⟨v5, ev5, h⟩ := lt_e h
    refine g_putf C (k := 14) (kd := 0) okX12 (by decide) kf_RX12_251 dX12_fail_23 (rg_ hC T0.1) T0.2.1 rfl rfl nvI (Or.inl rfl) v5 ev5 ?_
    cases h
    exact g_vret C dX12_fail_26 hr hlk
  · replace h := if_f h c1
    cases h
    exact g_vret C dX12_fail_7 hr hlk
theorem dX12_goesOn_0 : decode cX12_goesOn 0 = .ok (.aload_n 0, 1) := by decide +kernel
theorem dX12_goesOn_1 : decode cX12_goesOn 1 = .ok (.getfield 248, 3) := by decide +kernel
theorem dX12_goesOn_4 : decode cX12_goesOn 4 = .ok (.sipush 400, 3) := by decide +kernel
theorem dX12_goesOn_7 : decode cX12_goesOn 7 = .ok (.if_icmp .ne 11, 3) := by decide +kernel
theorem dX12_goesOn_10 : decode cX12_goesOn 10 = .ok (.aload_n 0, 1) := by decide +kernel
theorem dX12_goesOn_11 : decode cX12_goesOn 11 = .ok (.iconst 2, 1) := by decide +kernel
theorem dX12_goesOn_12 : decode cX12_goesOn 12 = .ok (.invokevirtual 260, 3) := by decide +kernel
theorem dX12_goesOn_15 : decode cX12_goesOn 15 = .ok (.goto 13, 3) := by decide +kernel
theorem dX12_goesOn_18 : decode cX12_goesOn 18 = .ok (.aload_n 0, 1) := by decide +kernel
theorem dX12_goesOn_19 : decode cX12_goesOn 19 = .ok (.dup, 1) := by decide +kernel
theorem dX12_goesOn_20 : decode cX12_goesOn 20 = .ok (.getfield 248, 3) := by decide +kernel
theorem dX12_goesOn_23 : decode cX12_goesOn 23 = .ok (.iconst 1, 1) := by decide +kernel
theorem dX12_goesOn_24 : decode cX12_goesOn 24 = .ok (.iadd, 1) := by decide +kernel
theorem dX12_goesOn_25 : decode cX12_goesOn 25 = .ok (.putfield 248, 3) := by decide +kernel
theorem dX12_goesOn_28 : decode cX12_goesOn 28 = .ok (.return_, 1) := by decide +kernel
def fX12_goesOn (x0 : Int) (v : V_) : Option (Int × V_) :=
  if (v x0 11) = 400 then (
    bd_ (fX12_fail x0 2 v) fun q3 =>
    some (0, q3.2))
  else (
    lt_ (up_ v x0 11 (wr_ ((v x0 11) + 1))) fun v2 =>
    some (0, v2))
theorem cX12_goesOn_ok (l : Launch) {E : En_} {sz : Int} (hC : Cl_ E.2.2.2.2.2 sz) {x0 : Int} {v : V_} {out : Int × V_} (T0 : (E.2.2.2.2.2 x0 ∧ ty_ x0 = 12 ∧ ln_ x0 = 0)) (h : fX12_goesOn x0 v = some out) : Met l yX12_goesOn [.code yX12_goesOn cX12_goesOn 1 (none : Option FieldType)] (rm_ 1 21) (Pc_ E sz v [(2, x0)]) (Qc_ E sz 9 out.1 out.2) 0 0 (fun q => E.1 < q) := by
  refine met_G0 RX12 (by decide +kernel) rfl (Nat.le_of_ble_eq_true rfl) ?_
  intro p e s m args below meth c C hr hlk
  rw [fX12_goesOn] at h
  refine g_aload_n C (f := 0) dX12_goesOn_0 0 rfl ?_
  refine g_getf C (k := 11) (kd := 0) okX12 (by decide) kf_RX12_248 dX12_goesOn_1 (rg_ hC T0.1) T0.2.1 rfl ?_
  refine g_sipush C (n := 400) dX12_goesOn_4 (by decide) ?_
  refine g_icmp_ne C 18 dX12_goesOn_7 rfl (fun c1 => ?_) (fun c1 => ?_)
  · replace h := if_f h c1
    refine g_aload_n C (f := 0) dX12_goesOn_18 0 rfl ?_
    refine g_dup C (Nat.ne_of_beq_eq_false rfl) dX12_goesOn_19 ?_
    refine g_getf C (k := 11) (kd := 0) okX12 (by decide) kf_RX12_248 dX12_goesOn_20 (rg_ hC T0.1) T0.2.1 rfl ?_
    refine g_iconst C (n := 1) dX12_goesOn_23 (by decide) ?_
    refine g_iadd C dX12_goesOn_24 ?_
    obtain ⟨v2, ev2, h⟩ := lt_e h
    refine g_putf C (k := 11) (kd := 0) okX12 (by decide) kf_RX12_248 dX12_goesOn_25 (rg_ hC T0.1) T0.2.1 rfl rfl nvI (Or.inl rfl) v2 ev2 ?_
    cases h
    exact g_vret C dX12_goesOn_28 hr hlk
  · replace h := if_t h c1
    refine g_aload_n C (f := 0) dX12_goesOn_10 0 rfl ?_
    refine g_iconst C (n := 2) dX12_goesOn_11 (by decide) ?_
    obtain ⟨q3, eq3, h⟩ := bd_e h
    refine g_cV C [(0, 2)] (cX12_fail_ok l hC T0 eq3) okX12 T0.2.1 (rg_ hC T0.1) km_RX12_260 cv_X12_fail rfl (by decide) rfl rfl (Nat.le_of_ble_eq_true rfl) dX12_goesOn_12 ?_
    refine g_goto C 28 dX12_goesOn_15 rfl ?_
    cases h
    exact g_vret C dX12_goesOn_28 hr hlk
theorem dX12_is_0 : decode cX12_is 0 = .ok (.aload_n 0, 1) := by decide +kernel
theorem dX12_is_1 : decode cX12_is 1 = .ok (.getfield 245, 3) := by decide +kernel
theorem dX12_is_4 : decode cX12_is 4 = .ok (.ifCond .ne 20, 3) := by decide +kernel
theorem dX12_is_7 : decode cX12_is 7 = .ok (.aload_n 0, 1) := by decide +kernel
theorem dX12_is_8 : decode cX12_is 8 = .ok (.getfield 20, 3) := by decide +kernel
theorem dX12_is_11 : decode cX12_is 11 = .ok (.aload_n 0, 1) := by decide +kernel
theorem dX12_is_12 : decode cX12_is 12 = .ok (.getfield 248, 3) := by decide +kernel
theorem dX12_is_15 : decode cX12_is 15 = .ok (.iaload, 1) := by decide +kernel
theorem dX12_is_16 : decode cX12_is 16 = .ok (.iload_n 1, 1) := by decide +kernel
theorem dX12_is_17 : decode cX12_is 17 = .ok (.if_icmp .ne 7, 3) := by decide +kernel
theorem dX12_is_20 : decode cX12_is 20 = .ok (.iconst 1, 1) := by decide +kernel
theorem dX12_is_21 : decode cX12_is 21 = .ok (.goto 4, 3) := by decide +kernel
theorem dX12_is_24 : decode cX12_is 24 = .ok (.iconst 0, 1) := by decide +kernel
theorem dX12_is_25 : decode cX12_is 25 = .ok (.ireturn, 1) := by decide +kernel
def fX12_is (x0 x1 : Int) (v : V_) : Option (Int × V_) :=
  if (v x0 13) = 0 then (
    ck_ (0 ≤ v x0 11 ∧ v x0 11 < 403) (
    if (v (x0 + 3) (v x0 11)) = x1 then (
      some (1, v))
    else (
      some (0, v))))
  else (
    some (0, v))
theorem cX12_is_ok (l : Launch) {E : En_} {sz : Int} (hC : Cl_ E.2.2.2.2.2 sz) {x0 x1 : Int} {v : V_} {out : Int × V_} (T0 : (E.2.2.2.2.2 x0 ∧ ty_ x0 = 12 ∧ ln_ x0 = 0)) (h : fX12_is x0 x1 v = some out) : Met l yX12_is [.code yX12_is cX12_is 2 (some FieldType.boolean)] (rm_ 0 0) (Pc_ E sz v [(2, x0), (0, x1)]) (Qc_ E sz 0 out.1 out.2) 0 0 (fun q => E.1 < q) := by
  refine met_G0 RX12 (by decide +kernel) rfl (Nat.le_of_ble_eq_true rfl) ?_
  intro p e s m args below meth c C hr hlk
  rw [fX12_is] at h
  refine g_aload_n C (f := 0) dX12_is_0 0 rfl ?_
  refine g_getf C (k := 13) (kd := 0) okX12 (by decide) kf_RX12_245 dX12_is_1 (rg_ hC T0.1) T0.2.1 rfl ?_
  refine g_if_ne C 24 dX12_is_4 rfl (fun c1 => ?_) (fun c1 => ?_)
  · replace h := if_f h c1
    refine g_iconst C (n := 0) dX12_is_24 (by decide) ?_
    cases h
    exact g_zret C dX12_is_25 hr hlk (Or.inl rfl)
  · replace h := if_t h c1
    refine g_aload_n C (f := 0) dX12_is_7 0 rfl ?_
    have F2 := fX12_5 hC T0.1 T0.2.1
    refine g_getR C (k := 5) (o := 3) okX12 (by decide) kf_RX12_20 dX12_is_8 hC T0.1 T0.2.1 rfl rfl ?_
    refine g_aload_n C (f := 0) dX12_is_11 0 rfl ?_
    refine g_getf C (k := 11) (kd := 0) okX12 (by decide) kf_RX12_248 dX12_is_12 (rg_ hC T0.1) T0.2.1 rfl ?_
    obtain ⟨c3, h⟩ := ck_e h
    refine g_iald C 403 dX12_is_15 (rg_ hC F2.1) F2.2.1 F2.2.2 c3 ?_
    refine g_iload_n C (f := 1) dX12_is_16 1 rfl ?_
    refine g_icmp_ne C 24 dX12_is_17 rfl (fun c4 => ?_) (fun c4 => ?_)
    · replace h := if_f h c4
      refine g_iconst C (n := 0) dX12_is_24 (by decide) ?_
      cases h
      exact g_zret C dX12_is_25 hr hlk (Or.inl rfl)
    · replace h := if_t h c4
      refine g_iconst C (n := 1) dX12_is_20 (by decide) ?_
      refine g_goto C 25 dX12_is_21 rfl ?_
      cases h
      exact g_zret C dX12_is_25 hr hlk (Or.inr rfl)
theorem dX12_wrong_0 : decode cX12_wrong 0 = .ok (.aload_n 0, 1) := by decide +kernel
theorem dX12_wrong_1 : decode cX12_wrong 1 = .ok (.getfield 24, 3) := by decide +kernel
theorem dX12_wrong_4 : decode cX12_wrong 4 = .ok (.iload_n 2, 1) := by decide +kernel
theorem dX12_wrong_5 : decode cX12_wrong 5 = .ok (.iaload, 1) := by decide +kernel
theorem dX12_wrong_6 : decode cX12_wrong 6 = .ok (.istore_n 3, 1) := by decide +kernel
theorem dX12_wrong_7 : decode cX12_wrong 7 = .ok (.aload_n 0, 1) := by decide +kernel
theorem dX12_wrong_8 : decode cX12_wrong 8 = .ok (.getfield 245, 3) := by decide +kernel
theorem dX12_wrong_11 : decode cX12_wrong 11 = .ok (.ifCond .gt 34, 3) := by decide +kernel
theorem dX12_wrong_14 : decode cX12_wrong 14 = .ok (.aload_n 0, 1) := by decide +kernel
theorem dX12_wrong_15 : decode cX12_wrong 15 = .ok (.getfield 254, 3) := by decide +kernel
theorem dX12_wrong_18 : decode cX12_wrong 18 = .ok (.ifCond .eq 28, 3) := by decide +kernel
theorem dX12_wrong_21 : decode cX12_wrong 21 = .ok (.iload_n 3, 1) := by decide +kernel
theorem dX12_wrong_22 : decode cX12_wrong 22 = .ok (.aload_n 0, 1) := by decide +kernel
theorem dX12_wrong_23 : decode cX12_wrong 23 = .ok (.getfield 257, 3) := by decide +kernel
theorem dX12_wrong_26 : decode cX12_wrong 26 = .ok (.if_icmp .gt 19, 3) := by decide +kernel
theorem dX12_wrong_29 : decode cX12_wrong 29 = .ok (.iload_n 3, 1) := by decide +kernel
theorem dX12_wrong_30 : decode cX12_wrong 30 = .ok (.aload_n 0, 1) := by decide +kernel
theorem dX12_wrong_31 : decode cX12_wrong 31 = .ok (.getfield 257, 3) := by decide +kernel
theorem dX12_wrong_34 : decode cX12_wrong 34 = .ok (.if_icmp .ne 12, 3) := by decide +kernel
theorem dX12_wrong_37 : decode cX12_wrong 37 = .ok (.iload_n 1, 1) := by decide +kernel
theorem dX12_wrong_38 : decode cX12_wrong 38 = .ok (.aload_n 0, 1) := by decide +kernel
theorem dX12_wrong_39 : decode cX12_wrong 39 = .ok (.getfield 254, 3) := by decide +kernel
theorem dX12_wrong_42 : decode cX12_wrong 42 = .ok (.if_icmp .lt 4, 3) := by decide +kernel
theorem dX12_wrong_45 : decode cX12_wrong 45 = .ok (.return_, 1) := by decide +kernel
theorem dX12_wrong_46 : decode cX12_wrong 46 = .ok (.aload_n 0, 1) := by decide +kernel
theorem dX12_wrong_47 : decode cX12_wrong 47 = .ok (.iload_n 1, 1) := by decide +kernel
theorem dX12_wrong_48 : decode cX12_wrong 48 = .ok (.putfield 254, 3) := by decide +kernel
theorem dX12_wrong_51 : decode cX12_wrong 51 = .ok (.aload_n 0, 1) := by decide +kernel
theorem dX12_wrong_52 : decode cX12_wrong 52 = .ok (.iload_n 3, 1) := by decide +kernel
theorem dX12_wrong_53 : decode cX12_wrong 53 = .ok (.putfield 257, 3) := by decide +kernel
theorem dX12_wrong_56 : decode cX12_wrong 56 = .ok (.return_, 1) := by decide +kernel
def fX12_wrong_46 (x0 x1 x3 : Int) (v : V_) : Option (Int × V_) :=
  lt_ (up_ v x0 15 x1) fun v6 =>
  lt_ (up_ v6 x0 16 x3) fun v7 =>
  some (0, v7)
def fX12_wrong (x0 x1 x2 : Int) (v : V_) : Option (Int × V_) :=
  ck_ (0 ≤ x2 ∧ x2 < 403) (
  lt_ (v (x0 + 4) x2) fun y3 =>
  if 0 < (v x0 13) then (
    some (0, v))
  else (
    if (v x0 15) = 0 then (
      fX12_wrong_46 x0 x1 y3 v)
    else (
      if (v x0 16) < y3 then (
        some (0, v))
      else (
        if y3 = (v x0 16) then (
          if x1 < (v x0 15) then (
            fX12_wrong_46 x0 x1 y3 v)
          else (
            some (0, v)))
        else (
          fX12_wrong_46 x0 x1 y3 v)))))
section
variable {E : En_} {p : Program} {l : Launch} {e : Env} {s : State} {m : MethodId} {args : Array Value} {below : List Frame} {meth : Method} {c : Code} {sz : Int}
theorem tX12_wrong_46 (C : MC_ E p s m c cX12_wrong 4 RX12) (hr : meth.sig.returnType = (none : Option FieldType)) (hlk : meth.locks = false) (hC : Cl_ E.2.2.2.2.2 sz) {out : Int × V_} (x0 x1 x3 : Int) (v : V_) (T0 : (E.2.2.2.2.2 x0 ∧ ty_ x0 = 12 ∧ ln_ x0 = 0)) (h : fX12_wrong_46 x0 x1 x3 v = some out) : G_ E p l e (rm_ 0 0) s m args below meth c 4 sz (Q_ E below args s sz sz 9 out.1 out.2) 46 [(0, (2, x0)), (1, (0, x1)), (3, (0, x3))] [] v sz := by
  rw [fX12_wrong_46] at h
  refine g_aload_n C (f := 0) dX12_wrong_46 0 rfl ?_
  refine g_iload_n C (f := 1) dX12_wrong_47 1 rfl ?_
  obtain ⟨v6, ev6, h⟩ := lt_e h
  refine g_putf C (k := 15) (kd := 0) okX12 (by decide) kf_RX12_254 dX12_wrong_48 (rg_ hC T0.1) T0.2.1 rfl rfl nvI (Or.inl rfl) v6 ev6 ?_
  refine g_aload_n C (f := 0) dX12_wrong_51 0 rfl ?_
  refine g_iload_n C (f := 3) dX12_wrong_52 2 rfl ?_
  obtain ⟨v7, ev7, h⟩ := lt_e h
  refine g_putf C (k := 16) (kd := 0) okX12 (by decide) kf_RX12_257 dX12_wrong_53 (rg_ hC T0.1) T0.2.1 rfl rfl nvI (Or.inl rfl) v7 ev7 ?_
  cases h
  exact g_vret C dX12_wrong_56 hr hlk
end
theorem cX12_wrong_ok (l : Launch) {E : En_} {sz : Int} (hC : Cl_ E.2.2.2.2.2 sz) {x0 x1 x2 : Int} {v : V_} {out : Int × V_} (T0 : (E.2.2.2.2.2 x0 ∧ ty_ x0 = 12 ∧ ln_ x0 = 0)) (h : fX12_wrong x0 x1 x2 v = some out) : Met l yX12_wrong [.code yX12_wrong cX12_wrong 4 (none : Option FieldType)] (rm_ 0 0) (Pc_ E sz v [(2, x0), (0, x1), (0, x2)]) (Qc_ E sz 9 out.1 out.2) 0 0 (fun q => E.1 < q) := by
  refine met_G0 RX12 (by decide +kernel) rfl (Nat.le_of_ble_eq_true rfl) ?_
  intro p e s m args below meth c C hr hlk
  rw [fX12_wrong] at h
  refine g_aload_n C (f := 0) dX12_wrong_0 0 rfl ?_
  have F1 := fX12_6 hC T0.1 T0.2.1
  refine g_getR C (k := 6) (o := 4) okX12 (by decide) kf_RX12_24 dX12_wrong_1 hC T0.1 T0.2.1 rfl rfl ?_
  refine g_iload_n C (f := 2) dX12_wrong_4 2 rfl ?_
  obtain ⟨c2, h⟩ := ck_e h
  refine g_iald C 403 dX12_wrong_5 (rg_ hC F1.1) F1.2.1 F1.2.2 c2 ?_
  obtain ⟨y3, ey3, h⟩ := lt_e h
  refine g_set C ey3 ?_
  refine g_istore_n C (f := 3) (ls' := [(3, (0, y3)), (0, (2, x0)), (1, (0, x1)), (2, (0, x2))]) dX12_wrong_6 (by decide) rfl ?_
  refine g_aload_n C (f := 0) dX12_wrong_7 1 rfl ?_
  refine g_getf C (k := 13) (kd := 0) okX12 (by decide) kf_RX12_245 dX12_wrong_8 (rg_ hC T0.1) T0.2.1 rfl ?_
  refine g_if_gt C 45 dX12_wrong_11 rfl (fun c4 => ?_) (fun c4 => ?_)
  · replace h := if_t h c4
    cases h
    exact g_vret C dX12_wrong_45 hr hlk
  · replace h := if_f h c4
    refine g_aload_n C (f := 0) dX12_wrong_14 1 rfl ?_
    refine g_getf C (k := 15) (kd := 0) okX12 (by decide) kf_RX12_254 dX12_wrong_15 (rg_ hC T0.1) T0.2.1 rfl ?_
    refine g_if_eq C 46 dX12_wrong_18 rfl (fun c5 => ?_) (fun c5 => ?_)
    · replace h := if_t h c5
      refine g_sub [1, 2, 0] rfl rfl ?_
      exact tX12_wrong_46 C hr hlk hC _ _ _ _ T0 h
    · replace h := if_f h c5
      refine g_iload_n C (f := 3) dX12_wrong_21 0 rfl ?_
      refine g_aload_n C (f := 0) dX12_wrong_22 1 rfl ?_
      refine g_getf C (k := 16) (kd := 0) okX12 (by decide) kf_RX12_257 dX12_wrong_23 (rg_ hC T0.1) T0.2.1 rfl ?_
      refine g_icmp_gt C 45 dX12_wrong_26 rfl (fun c8 => ?_) (fun c8 => ?_)
      · replace h := if_t h c8
        cases h
        exact g_vret C dX12_wrong_45 hr hlk
      · replace h := if_f h c8
        refine g_iload_n C (f := 3) dX12_wrong_29 0 rfl ?_
        refine g_aload_n C (f := 0) dX12_wrong_30 1 rfl ?_
        refine g_getf C (k := 16) (kd := 0) okX12 (by decide) kf_RX12_257 dX12_wrong_31 (rg_ hC T0.1) T0.2.1 rfl ?_
        refine g_icmp_ne C 46 dX12_wrong_34 rfl (fun c9 => ?_) (fun c9 => ?_)
        · replace h := if_f h c9
          refine g_sub [1, 2, 0] rfl rfl ?_
          exact tX12_wrong_46 C hr hlk hC _ _ _ _ T0 h
        · replace h := if_t h c9
          refine g_iload_n C (f := 1) dX12_wrong_37 2 rfl ?_
          refine g_aload_n C (f := 0) dX12_wrong_38 1 rfl ?_
          refine g_getf C (k := 15) (kd := 0) okX12 (by decide) kf_RX12_254 dX12_wrong_39 (rg_ hC T0.1) T0.2.1 rfl ?_
          refine g_icmp_lt C 46 dX12_wrong_42 rfl (fun c10 => ?_) (fun c10 => ?_)
          · replace h := if_t h c10
            refine g_sub [1, 2, 0] rfl rfl ?_
            exact tX12_wrong_46 C hr hlk hC _ _ _ _ T0 h
          · replace h := if_f h c10
            cases h
            exact g_vret C dX12_wrong_45 hr hlk
theorem dX12_bounded_0 : decode cX12_bounded 0 = .ok (.aload_n 0, 1) := by decide +kernel
theorem dX12_bounded_1 : decode cX12_bounded 1 = .ok (.getfield 245, 3) := by decide +kernel
theorem dX12_bounded_4 : decode cX12_bounded 4 = .ok (.ifCond .gt 11, 3) := by decide +kernel
theorem dX12_bounded_7 : decode cX12_bounded 7 = .ok (.aload_n 0, 1) := by decide +kernel
theorem dX12_bounded_8 : decode cX12_bounded 8 = .ok (.iconst 2, 1) := by decide +kernel
theorem dX12_bounded_9 : decode cX12_bounded 9 = .ok (.invokevirtual 263, 3) := by decide +kernel
theorem dX12_bounded_12 : decode cX12_bounded 12 = .ok (.ifCond .ne 10, 3) := by decide +kernel
theorem dX12_bounded_15 : decode cX12_bounded 15 = .ok (.aload_n 0, 1) := by decide +kernel
theorem dX12_bounded_16 : decode cX12_bounded 16 = .ok (.iconst 1, 1) := by decide +kernel
theorem dX12_bounded_17 : decode cX12_bounded 17 = .ok (.invokevirtual 260, 3) := by decide +kernel
theorem dX12_bounded_20 : decode cX12_bounded 20 = .ok (.iload_n 1, 1) := by decide +kernel
theorem dX12_bounded_21 : decode cX12_bounded 21 = .ok (.ireturn, 1) := by decide +kernel
theorem dX12_bounded_22 : decode cX12_bounded 22 = .ok (.aload_n 0, 1) := by decide +kernel
theorem dX12_bounded_23 : decode cX12_bounded 23 = .ok (.getfield 27, 3) := by decide +kernel
theorem dX12_bounded_26 : decode cX12_bounded 26 = .ok (.aload_n 0, 1) := by decide +kernel
theorem dX12_bounded_27 : decode cX12_bounded 27 = .ok (.getfield 248, 3) := by decide +kernel
theorem dX12_bounded_30 : decode cX12_bounded 30 = .ok (.iaload, 1) := by decide +kernel
theorem dX12_bounded_31 : decode cX12_bounded 31 = .ok (.istore_n 3, 1) := by decide +kernel
theorem dX12_bounded_32 : decode cX12_bounded 32 = .ok (.iload_n 3, 1) := by decide +kernel
theorem dX12_bounded_33 : decode cX12_bounded 33 = .ok (.iload_n 1, 1) := by decide +kernel
theorem dX12_bounded_34 : decode cX12_bounded 34 = .ok (.if_icmp .lt 8, 3) := by decide +kernel
theorem dX12_bounded_37 : decode cX12_bounded 37 = .ok (.iload_n 3, 1) := by decide +kernel
theorem dX12_bounded_38 : decode cX12_bounded 38 = .ok (.iload_n 2, 1) := by decide +kernel
theorem dX12_bounded_39 : decode cX12_bounded 39 = .ok (.if_icmp .le 12, 3) := by decide +kernel
theorem dX12_bounded_42 : decode cX12_bounded 42 = .ok (.aload_n 0, 1) := by decide +kernel
theorem dX12_bounded_43 : decode cX12_bounded 43 = .ok (.iconst 5, 1) := by decide +kernel
theorem dX12_bounded_44 : decode cX12_bounded 44 = .ok (.aload_n 0, 1) := by decide +kernel
theorem dX12_bounded_45 : decode cX12_bounded 45 = .ok (.getfield 248, 3) := by decide +kernel
theorem dX12_bounded_48 : decode cX12_bounded 48 = .ok (.invokevirtual 311, 3) := by decide +kernel
theorem dX12_bounded_51 : decode cX12_bounded 51 = .ok (.aload_n 0, 1) := by decide +kernel
theorem dX12_bounded_52 : decode cX12_bounded 52 = .ok (.invokevirtual 266, 3) := by decide +kernel
theorem dX12_bounded_55 : decode cX12_bounded 55 = .ok (.iload_n 3, 1) := by decide +kernel
theorem dX12_bounded_56 : decode cX12_bounded 56 = .ok (.ireturn, 1) := by decide +kernel
def fX12_bounded_15 (x0 x1 : Int) (v : V_) : Option (Int × V_) :=
  bd_ (fX12_fail x0 1 v) fun q2 =>
  some (x1, q2.2)
def fX12_bounded_42 (x0 x3 : Int) (v : V_) : Option (Int × V_) :=
  bd_ (fX12_wrong x0 5 (v x0 11) v) fun q9 =>
  bd_ (fX12_goesOn x0 q9.2) fun q10 =>
  some (x3, q10.2)
def fX12_bounded (x0 x1 x2 : Int) (v : V_) : Option (Int × V_) :=
  if 0 < (v x0 13) then (
    fX12_bounded_15 x0 x1 v)
  else (
    bd_ (fX12_is x0 2 v) fun q3 =>
    if q3.1 = 0 then (
      fX12_bounded_15 x0 x1 q3.2)
    else (
      ck_ (0 ≤ q3.2 x0 11 ∧ q3.2 x0 11 < 403) (
      lt_ (q3.2 (x0 + 5) (q3.2 x0 11)) fun y7 =>
      if y7 < x1 then (
        fX12_bounded_42 x0 y7 q3.2)
      else (
        if y7 ≤ x2 then (
          bd_ (fX12_goesOn x0 q3.2) fun q12 =>
          some (y7, q12.2))
        else (
          fX12_bounded_42 x0 y7 q3.2)))))
section
variable {E : En_} {p : Program} {l : Launch} {e : Env} {s : State} {m : MethodId} {args : Array Value} {below : List Frame} {meth : Method} {c : Code} {sz : Int}
theorem tX12_bounded_15 (C : MC_ E p s m c cX12_bounded 4 RX12) (hr : meth.sig.returnType = (some FieldType.int)) (hlk : meth.locks = false) (hC : Cl_ E.2.2.2.2.2 sz) {out : Int × V_} (x0 x1 : Int) (v : V_) (T0 : (E.2.2.2.2.2 x0 ∧ ty_ x0 = 12 ∧ ln_ x0 = 0)) (h : fX12_bounded_15 x0 x1 v = some out) : G_ E p l e (rm_ 2 41) s m args below meth c 4 sz (Q_ E below args s sz sz 0 out.1 out.2) 15 [(0, (2, x0)), (1, (0, x1))] [] v sz := by
  rw [fX12_bounded_15] at h
  refine g_aload_n C (f := 0) dX12_bounded_15 0 rfl ?_
  refine g_iconst C (n := 1) dX12_bounded_16 (by decide) ?_
  obtain ⟨q2, eq2, h⟩ := bd_e h
  refine g_cV C [(0, 1)] (cX12_fail_ok l hC T0 eq2) okX12 T0.2.1 (rg_ hC T0.1) km_RX12_260 cv_X12_fail rfl (by decide) rfl rfl (Nat.le_of_ble_eq_true rfl) dX12_bounded_17 ?_
  refine g_iload_n C (f := 1) dX12_bounded_20 1 rfl ?_
  cases h
  exact g_iret C dX12_bounded_21 hr hlk
theorem tX12_bounded_42 (C : MC_ E p s m c cX12_bounded 4 RX12) (hr : meth.sig.returnType = (some FieldType.int)) (hlk : meth.locks = false) (hC : Cl_ E.2.2.2.2.2 sz) {out : Int × V_} (x0 x3 : Int) (v : V_) (T0 : (E.2.2.2.2.2 x0 ∧ ty_ x0 = 12 ∧ ln_ x0 = 0)) (h : fX12_bounded_42 x0 x3 v = some out) : G_ E p l e (rm_ 2 41) s m args below meth c 4 sz (Q_ E below args s sz sz 0 out.1 out.2) 42 [(0, (2, x0)), (3, (0, x3))] [] v sz := by
  rw [fX12_bounded_42] at h
  refine g_aload_n C (f := 0) dX12_bounded_42 0 rfl ?_
  refine g_iconst C (n := 5) dX12_bounded_43 (by decide) ?_
  refine g_aload_n C (f := 0) dX12_bounded_44 0 rfl ?_
  refine g_getf C (k := 11) (kd := 0) okX12 (by decide) kf_RX12_248 dX12_bounded_45 (rg_ hC T0.1) T0.2.1 rfl ?_
  obtain ⟨q9, eq9, h⟩ := bd_e h
  refine g_cV C [(0, 5), (0, v x0 11)] (cX12_wrong_ok l hC T0 eq9) okX12 T0.2.1 (rg_ hC T0.1) km_RX12_311 cv_X12_wrong rfl (by decide) rfl rfl (Nat.le_of_ble_eq_true rfl) dX12_bounded_48 ?_
  refine g_aload_n C (f := 0) dX12_bounded_51 0 rfl ?_
  obtain ⟨q10, eq10, h⟩ := bd_e h
  refine g_cV C [] (cX12_goesOn_ok l hC T0 eq10) okX12 T0.2.1 (rg_ hC T0.1) km_RX12_266 cv_X12_goesOn rfl (by decide) rfl rfl (Nat.le_of_ble_eq_true rfl) dX12_bounded_52 ?_
  refine g_iload_n C (f := 3) dX12_bounded_55 1 rfl ?_
  cases h
  exact g_iret C dX12_bounded_56 hr hlk
end
theorem cX12_bounded_ok (l : Launch) {E : En_} {sz : Int} (hC : Cl_ E.2.2.2.2.2 sz) {x0 x1 x2 : Int} {v : V_} {out : Int × V_} (T0 : (E.2.2.2.2.2 x0 ∧ ty_ x0 = 12 ∧ ln_ x0 = 0)) (h : fX12_bounded x0 x1 x2 v = some out) : Met l yX12_bounded [.code yX12_bounded cX12_bounded 4 (some FieldType.int)] (rm_ 2 41) (Pc_ E sz v [(2, x0), (0, x1), (0, x2)]) (Qc_ E sz 0 out.1 out.2) 0 0 (fun q => E.1 < q) := by
  refine met_G0 RX12 (by decide +kernel) rfl (Nat.le_of_ble_eq_true rfl) ?_
  intro p e s m args below meth c C hr hlk
  rw [fX12_bounded] at h
  refine g_aload_n C (f := 0) dX12_bounded_0 0 rfl ?_
  refine g_getf C (k := 13) (kd := 0) okX12 (by decide) kf_RX12_245 dX12_bounded_1 (rg_ hC T0.1) T0.2.1 rfl ?_
  refine g_if_gt C 15 dX12_bounded_4 rfl (fun c1 => ?_) (fun c1 => ?_)
  · replace h := if_t h c1
    refine g_sub [0, 1] rfl rfl ?_
    exact tX12_bounded_15 C hr hlk hC _ _ _ T0 h
  · replace h := if_f h c1
    refine g_aload_n C (f := 0) dX12_bounded_7 0 rfl ?_
    refine g_iconst C (n := 2) dX12_bounded_8 (by decide) ?_
    obtain ⟨q3, eq3, h⟩ := bd_e h
    refine g_cV C [(0, 2)] (cX12_is_ok l hC T0 eq3) okX12 T0.2.1 (rg_ hC T0.1) km_RX12_263 cv_X12_is rfl (by decide) rfl rfl (Nat.le_of_ble_eq_true rfl) dX12_bounded_9 ?_
    refine g_if_ne C 22 dX12_bounded_12 rfl (fun c4 => ?_) (fun c4 => ?_)
    · replace h := if_f h c4
      refine g_aload_n C (f := 0) dX12_bounded_22 0 rfl ?_
      have F5 := fX12_7 hC T0.1 T0.2.1
      refine g_getR C (k := 7) (o := 5) okX12 (by decide) kf_RX12_27 dX12_bounded_23 hC T0.1 T0.2.1 rfl rfl ?_
      refine g_aload_n C (f := 0) dX12_bounded_26 0 rfl ?_
      refine g_getf C (k := 11) (kd := 0) okX12 (by decide) kf_RX12_248 dX12_bounded_27 (rg_ hC T0.1) T0.2.1 rfl ?_
      obtain ⟨c6, h⟩ := ck_e h
      refine g_iald C 403 dX12_bounded_30 (rg_ hC F5.1) F5.2.1 F5.2.2 c6 ?_
      obtain ⟨y7, ey7, h⟩ := lt_e h
      refine g_set C ey7 ?_
      refine g_istore_n C (f := 3) (ls' := [(3, (0, y7)), (0, (2, x0)), (1, (0, x1)), (2, (0, x2))]) dX12_bounded_31 (by decide) rfl ?_
      refine g_iload_n C (f := 3) dX12_bounded_32 0 rfl ?_
      refine g_iload_n C (f := 1) dX12_bounded_33 2 rfl ?_
      refine g_icmp_lt C 42 dX12_bounded_34 rfl (fun c8 => ?_) (fun c8 => ?_)
      · replace h := if_t h c8
        refine g_sub [1, 0] rfl rfl ?_
        exact tX12_bounded_42 C hr hlk hC _ _ _ T0 h
      · replace h := if_f h c8
        refine g_iload_n C (f := 3) dX12_bounded_37 0 rfl ?_
        refine g_iload_n C (f := 2) dX12_bounded_38 3 rfl ?_
        refine g_icmp_le C 51 dX12_bounded_39 rfl (fun c11 => ?_) (fun c11 => ?_)
        · replace h := if_t h c11
          refine g_aload_n C (f := 0) dX12_bounded_51 1 rfl ?_
          obtain ⟨q12, eq12, h⟩ := bd_e h
          refine g_cV C [] (cX12_goesOn_ok l hC T0 eq12) okX12 T0.2.1 (rg_ hC T0.1) km_RX12_266 cv_X12_goesOn rfl (by decide) rfl rfl (Nat.le_of_ble_eq_true rfl) dX12_bounded_52 ?_
          refine g_iload_n C (f := 3) dX12_bounded_55 0 rfl ?_
          cases h
          exact g_iret C dX12_bounded_56 hr hlk
        · replace h := if_f h c11
          refine g_sub [1, 0] rfl rfl ?_
          exact tX12_bounded_42 C hr hlk hC _ _ _ T0 h
    · replace h := if_t h c4
      refine g_sub [0, 1] rfl rfl ?_
      exact tX12_bounded_15 C hr hlk hC _ _ _ T0 h
theorem dX12_isTrace_0 : decode cX12_isTrace 0 = .ok (.iload_n 1, 1) := by decide +kernel
theorem dX12_isTrace_1 : decode cX12_isTrace 1 = .ok (.iconst 0, 1) := by decide +kernel
theorem dX12_isTrace_2 : decode cX12_isTrace 2 = .ok (.aload_n 0, 1) := by decide +kernel
theorem dX12_isTrace_3 : decode cX12_isTrace 3 = .ok (.getfield 402, 3) := by decide +kernel
theorem dX12_isTrace_6 : decode cX12_isTrace 6 = .ok (.iconst 1, 1) := by decide +kernel
theorem dX12_isTrace_7 : decode cX12_isTrace 7 = .ok (.isub, 1) := by decide +kernel
theorem dX12_isTrace_8 : decode cX12_isTrace 8 = .ok (.invokestatic 334, 3) := by decide +kernel
theorem dX12_isTrace_11 : decode cX12_isTrace 11 = .ok (.ireturn, 1) := by decide +kernel
def fX12_isTrace (x0 x1 : Int) (v : V_) : Option (Int × V_) :=
  bd_ (fX12_in x1 0 (wr_ ((v x0 52) - 1)) v) fun q1 =>
  ck_ (q1.1 = 0 ∨ q1.1 = 1) (
  some (q1.1, q1.2))
theorem cX12_isTrace_ok (l : Launch) {E : En_} {sz : Int} (hC : Cl_ E.2.2.2.2.2 sz) {x0 x1 : Int} {v : V_} {out : Int × V_} (T0 : (E.2.2.2.2.2 x0 ∧ ty_ x0 = 12 ∧ ln_ x0 = 0)) (h : fX12_isTrace x0 x1 v = some out) : Met l yX12_isTrace [.code yX12_isTrace cX12_isTrace 2 (some FieldType.boolean)] (rm_ 1 22) (Pc_ E sz v [(2, x0), (0, x1)]) (Qc_ E sz 0 out.1 out.2) 0 0 (fun q => E.1 < q) := by
  refine met_G0 RX12 (by decide +kernel) rfl (Nat.le_of_ble_eq_true rfl) ?_
  intro p e s m args below meth c C hr hlk
  rw [fX12_isTrace] at h
  refine g_iload_n C (f := 1) dX12_isTrace_0 1 rfl ?_
  refine g_iconst C (n := 0) dX12_isTrace_1 (by decide) ?_
  refine g_aload_n C (f := 0) dX12_isTrace_2 0 rfl ?_
  refine g_getf C (k := 52) (kd := 0) okX12 (by decide) kf_RX12_402 dX12_isTrace_3 (rg_ hC T0.1) T0.2.1 rfl ?_
  refine g_iconst C (n := 1) dX12_isTrace_6 (by decide) ?_
  refine g_isub C dX12_isTrace_7 ?_
  obtain ⟨q1, eq1, h⟩ := bd_e h
  refine g_cS C [(0, x1), (0, 0), (0, wr_ ((v x0 52) - 1))] (cX12_in_ok l hC eq1) km_RX12_334 cs_X12_in rfl (by decide) rfl rfl (Nat.le_of_ble_eq_true rfl) dX12_isTrace_8 ?_
  obtain ⟨c2, h⟩ := ck_e h
  cases h
  exact g_zret C dX12_isTrace_11 hr hlk c2
theorem dX12_busy_0 : decode cX12_busy 0 = .ok (.aload_n 0, 1) := by decide +kernel
theorem dX12_busy_1 : decode cX12_busy 1 = .ok (.invokevirtual 542, 3) := by decide +kernel
theorem dX12_busy_4 : decode cX12_busy 4 = .ok (.aload_n 0, 1) := by decide +kernel
theorem dX12_busy_5 : decode cX12_busy 5 = .ok (.iload_n 1, 1) := by decide +kernel
theorem dX12_busy_6 : decode cX12_busy 6 = .ok (.invokevirtual 567, 3) := by decide +kernel
theorem dX12_busy_9 : decode cX12_busy 9 = .ok (.ifCond .eq 27, 3) := by decide +kernel
theorem dX12_busy_12 : decode cX12_busy 12 = .ok (.iload_n 2, 1) := by decide +kernel
theorem dX12_busy_13 : decode cX12_busy 13 = .ok (.iconst 0, 1) := by decide +kernel
theorem dX12_busy_14 : decode cX12_busy 14 = .ok (.aload_n 0, 1) := by decide +kernel
theorem dX12_busy_15 : decode cX12_busy 15 = .ok (.iload_n 1, 1) := by decide +kernel
theorem dX12_busy_16 : decode cX12_busy 16 = .ok (.invokevirtual 521, 3) := by decide +kernel
theorem dX12_busy_19 : decode cX12_busy 19 = .ok (.iconst 1, 1) := by decide +kernel
theorem dX12_busy_20 : decode cX12_busy 20 = .ok (.isub, 1) := by decide +kernel
theorem dX12_busy_21 : decode cX12_busy 21 = .ok (.invokestatic 334, 3) := by decide +kernel
theorem dX12_busy_24 : decode cX12_busy 24 = .ok (.ifCond .eq 12, 3) := by decide +kernel
theorem dX12_busy_27 : decode cX12_busy 27 = .ok (.iload_n 3, 1) := by decide +kernel
theorem dX12_busy_28 : decode cX12_busy 28 = .ok (.iconst 0, 1) := by decide +kernel
theorem dX12_busy_29 : decode cX12_busy 29 = .ok (.iconst 3, 1) := by decide +kernel
theorem dX12_busy_30 : decode cX12_busy 30 = .ok (.invokestatic 334, 3) := by decide +kernel
theorem dX12_busy_33 : decode cX12_busy 33 = .ok (.ifCond .ne 5, 3) := by decide +kernel
theorem dX12_busy_36 : decode cX12_busy 36 = .ok (.iconst (-1), 1) := by decide +kernel
theorem dX12_busy_37 : decode cX12_busy 37 = .ok (.ireturn, 1) := by decide +kernel
theorem dX12_busy_38 : decode cX12_busy 38 = .ok (.iconst 0, 1) := by decide +kernel
theorem dX12_busy_39 : decode cX12_busy 39 = .ok (.istore 4, 2) := by decide +kernel
theorem dX12_busy_41 : decode cX12_busy 41 = .ok (.iconst 0, 1) := by decide +kernel
theorem dX12_busy_42 : decode cX12_busy 42 = .ok (.istore 5, 2) := by decide +kernel
theorem dX12_busy_44 : decode cX12_busy 44 = .ok (.iload 5, 2) := by decide +kernel
theorem dX12_busy_46 : decode cX12_busy 46 = .ok (.aload_n 0, 1) := by decide +kernel
theorem dX12_busy_47 : decode cX12_busy 47 = .ok (.getfield 118, 3) := by decide +kernel
theorem dX12_busy_50 : decode cX12_busy 50 = .ok (.iload_n 1, 1) := by decide +kernel
theorem dX12_busy_51 : decode cX12_busy 51 = .ok (.iaload, 1) := by decide +kernel
theorem dX12_busy_52 : decode cX12_busy 52 = .ok (.if_icmp .ge 44, 3) := by decide +kernel
theorem dX12_busy_55 : decode cX12_busy 55 = .ok (.aload_n 0, 1) := by decide +kernel
theorem dX12_busy_56 : decode cX12_busy 56 = .ok (.getfield 148, 3) := by decide +kernel
theorem dX12_busy_59 : decode cX12_busy 59 = .ok (.bipush 34, 2) := by decide +kernel
theorem dX12_busy_61 : decode cX12_busy 61 = .ok (.iload_n 1, 1) := by decide +kernel
theorem dX12_busy_62 : decode cX12_busy 62 = .ok (.imul, 1) := by decide +kernel
theorem dX12_busy_63 : decode cX12_busy 63 = .ok (.iload 5, 2) := by decide +kernel
theorem dX12_busy_65 : decode cX12_busy 65 = .ok (.iadd, 1) := by decide +kernel
theorem dX12_busy_66 : decode cX12_busy 66 = .ok (.iaload, 1) := by decide +kernel
theorem dX12_busy_67 : decode cX12_busy 67 = .ok (.iload_n 2, 1) := by decide +kernel
theorem dX12_busy_68 : decode cX12_busy 68 = .ok (.if_icmp .ne 22, 3) := by decide +kernel
theorem dX12_busy_71 : decode cX12_busy 71 = .ok (.aload_n 0, 1) := by decide +kernel
theorem dX12_busy_72 : decode cX12_busy 72 = .ok (.getfield 127, 3) := by decide +kernel
theorem dX12_busy_75 : decode cX12_busy 75 = .ok (.bipush 34, 2) := by decide +kernel
theorem dX12_busy_77 : decode cX12_busy 77 = .ok (.iload_n 1, 1) := by decide +kernel
theorem dX12_busy_78 : decode cX12_busy 78 = .ok (.imul, 1) := by decide +kernel
theorem dX12_busy_79 : decode cX12_busy 79 = .ok (.iload 5, 2) := by decide +kernel
theorem dX12_busy_81 : decode cX12_busy 81 = .ok (.iadd, 1) := by decide +kernel
theorem dX12_busy_82 : decode cX12_busy 82 = .ok (.iaload, 1) := by decide +kernel
theorem dX12_busy_83 : decode cX12_busy 83 = .ok (.iload_n 3, 1) := by decide +kernel
theorem dX12_busy_84 : decode cX12_busy 84 = .ok (.if_icmp .ne 6, 3) := by decide +kernel
theorem dX12_busy_87 : decode cX12_busy 87 = .ok (.iinc 4 1, 3) := by decide +kernel
theorem dX12_busy_90 : decode cX12_busy 90 = .ok (.iinc 5 1, 3) := by decide +kernel
theorem dX12_busy_93 : decode cX12_busy 93 = .ok (.goto (-49), 3) := by decide +kernel
theorem dX12_busy_96 : decode cX12_busy 96 = .ok (.iload 4, 2) := by decide +kernel
theorem dX12_busy_98 : decode cX12_busy 98 = .ok (.ireturn, 1) := by decide +kernel
def fX12_busy_44 : Nat → Int → Int → Int → Int → Int → Int → V_ → Option (Int × V_)
  | 0, _, _, _, _, _, _, _ => none
  | n + 1, x0, x1, x2, x3, x4, x5, v =>
    ck_ (0 ≤ x1 ∧ x1 < 8) (
    if (v (x0 + 34) x1) ≤ x5 then (
      some (x4, v))
    else (
      ck_ (0 ≤ wr_ ((wr_ (34 * x1)) + x5) ∧ wr_ ((wr_ (34 * x1)) + x5) < 272) (
      if (v (x0 + 44) (wr_ ((wr_ (34 * x1)) + x5))) = x2 then (
        ck_ (0 ≤ wr_ ((wr_ (34 * x1)) + x5) ∧ wr_ ((wr_ (34 * x1)) + x5) < 272) (
        if (v (x0 + 37) (wr_ ((wr_ (34 * x1)) + x5))) = x3 then (
          lt_ (wr_ (x4 + 1)) fun y20 =>
          lt_ (wr_ (x5 + 1)) fun y21 =>
          (fX12_busy_44 n) x0 x1 x2 x3 y20 y21 v)
        else (
          lt_ (wr_ (x5 + 1)) fun y19 =>
          (fX12_busy_44 n) x0 x1 x2 x3 x4 y19 v)))
      else (
        lt_ (wr_ (x5 + 1)) fun y15 =>
        (fX12_busy_44 n) x0 x1 x2 x3 x4 y15 v))))
def fX12_busy (x0 x1 x2 x3 : Int) (v : V_) : Option (Int × V_) :=
  bd_ (fX12_plansAll x0 v) fun q1 =>
  bd_ (fX12_isTrace x0 x1 q1.2) fun q2 =>
  if q2.1 = 0 then (
    some ((-1), q2.2))
  else (
    bd_ (fX12_lengthOf x0 x1 q2.2) fun q4 =>
    bd_ (fX12_in x2 0 (wr_ (q4.1 - 1)) q4.2) fun q5 =>
    if q5.1 = 0 then (
      some ((-1), q5.2))
    else (
      bd_ (fX12_in x3 0 3 q5.2) fun q7 =>
      if q7.1 = 0 then (
        some ((-1), q7.2))
      else (
        fX12_busy_44 fu_ x0 x1 x2 x3 0 0 q7.2)))
section
variable {E : En_} {p : Program} {l : Launch} {e : Env} {s : State} {m : MethodId} {args : Array Value} {below : List Frame} {meth : Method} {c : Code} {sz : Int}
theorem tX12_busy_44 (C : MC_ E p s m c cX12_busy 6 RX12) (hr : meth.sig.returnType = (some FieldType.int)) (hlk : meth.locks = false) (hC : Cl_ E.2.2.2.2.2 sz) {out : Int × V_} : ∀ (n : Nat) (x0 x1 x2 x3 x4 x5 : Int) (v : V_), (E.2.2.2.2.2 x0 ∧ ty_ x0 = 12 ∧ ln_ x0 = 0) → fX12_busy_44 n x0 x1 x2 x3 x4 x5 v = some out → G_ E p l e (rm_ 6 133) s m args below meth c 6 sz (Q_ E below args s sz sz 0 out.1 out.2) 44 [(0, (2, x0)), (1, (0, x1)), (2, (0, x2)), (3, (0, x3)), (4, (0, x4)), (5, (0, x5))] [] v sz := by
  intro n
  induction n with
  | zero =>
    intro x0 x1 x2 x3 x4 x5 v T0 h
    cases h
  | succ n H_44 =>
    intro x0 x1 x2 x3 x4 x5 v T0 h
    rw [fX12_busy_44] at h
    refine g_iload C (i := 5) dX12_busy_44 5 rfl ?_
    refine g_aload_n C (f := 0) dX12_busy_46 0 rfl ?_
    have F9 := fX12_53 hC T0.1 T0.2.1
    refine g_getR C (k := 53) (o := 34) okX12 (by decide) kf_RX12_118 dX12_busy_47 hC T0.1 T0.2.1 rfl rfl ?_
    refine g_iload_n C (f := 1) dX12_busy_50 1 rfl ?_
    obtain ⟨c10, h⟩ := ck_e h
    refine g_iald C 8 dX12_busy_51 (rg_ hC F9.1) F9.2.1 F9.2.2 c10 ?_
    refine g_icmp_ge C 96 dX12_busy_52 rfl (fun c11 => ?_) (fun c11 => ?_)
    · replace h := if_t h c11
      refine g_iload C (i := 4) dX12_busy_96 4 rfl ?_
      cases h
      exact g_iret C dX12_busy_98 hr hlk
    · replace h := if_f h c11
      refine g_aload_n C (f := 0) dX12_busy_55 0 rfl ?_
      have F12 := fX12_63 hC T0.1 T0.2.1
      refine g_getR C (k := 63) (o := 44) okX12 (by decide) kf_RX12_148 dX12_busy_56 hC T0.1 T0.2.1 rfl rfl ?_
      refine g_bipush C (n := 34) dX12_busy_59 (by decide) ?_
      refine g_iload_n C (f := 1) dX12_busy_61 1 rfl ?_
      refine g_imul C dX12_busy_62 ?_
      refine g_iload C (i := 5) dX12_busy_63 5 rfl ?_
      refine g_iadd C dX12_busy_65 ?_
      obtain ⟨c13, h⟩ := ck_e h
      refine g_iald C 272 dX12_busy_66 (rg_ hC F12.1) F12.2.1 F12.2.2 c13 ?_
      refine g_iload_n C (f := 2) dX12_busy_67 2 rfl ?_
      refine g_icmp_ne C 90 dX12_busy_68 rfl (fun c14 => ?_) (fun c14 => ?_)
      · replace h := if_f h c14
        obtain ⟨y15, ey15, h⟩ := lt_e h
        refine g_iincx C (ls' := [(5, (0, y15)), (0, (2, x0)), (1, (0, x1)), (2, (0, x2)), (3, (0, x3)), (4, (0, x4))]) ey15 dX12_busy_90 5 rfl (by decide) (by decide) rfl ?_
        refine g_goto C 44 dX12_busy_93 rfl ?_
        refine g_sub [1, 2, 3, 4, 5, 0] rfl rfl ?_
        exact H_44 _ _ _ _ _ _ _ T0 h
      · replace h := if_t h c14
        refine g_aload_n C (f := 0) dX12_busy_71 0 rfl ?_
        have F16 := fX12_56 hC T0.1 T0.2.1
        refine g_getR C (k := 56) (o := 37) okX12 (by decide) kf_RX12_127 dX12_busy_72 hC T0.1 T0.2.1 rfl rfl ?_
        refine g_bipush C (n := 34) dX12_busy_75 (by decide) ?_
        refine g_iload_n C (f := 1) dX12_busy_77 1 rfl ?_
        refine g_imul C dX12_busy_78 ?_
        refine g_iload C (i := 5) dX12_busy_79 5 rfl ?_
        refine g_iadd C dX12_busy_81 ?_
        obtain ⟨c17, h⟩ := ck_e h
        refine g_iald C 272 dX12_busy_82 (rg_ hC F16.1) F16.2.1 F16.2.2 c17 ?_
        refine g_iload_n C (f := 3) dX12_busy_83 3 rfl ?_
        refine g_icmp_ne C 90 dX12_busy_84 rfl (fun c18 => ?_) (fun c18 => ?_)
        · replace h := if_f h c18
          obtain ⟨y19, ey19, h⟩ := lt_e h
          refine g_iincx C (ls' := [(5, (0, y19)), (0, (2, x0)), (1, (0, x1)), (2, (0, x2)), (3, (0, x3)), (4, (0, x4))]) ey19 dX12_busy_90 5 rfl (by decide) (by decide) rfl ?_
          refine g_goto C 44 dX12_busy_93 rfl ?_
          refine g_sub [1, 2, 3, 4, 5, 0] rfl rfl ?_
          exact H_44 _ _ _ _ _ _ _ T0 h
        · replace h := if_t h c18
          obtain ⟨y20, ey20, h⟩ := lt_e h
          refine g_iincx C (ls' := [(4, (0, y20)), (0, (2, x0)), (1, (0, x1)), (2, (0, x2)), (3, (0, x3)), (5, (0, x5))]) ey20 dX12_busy_87 4 rfl (by decide) (by decide) rfl ?_
          obtain ⟨y21, ey21, h⟩ := lt_e h
          refine g_iincx C (ls' := [(5, (0, y21)), (4, (0, y20)), (0, (2, x0)), (1, (0, x1)), (2, (0, x2)), (3, (0, x3))]) ey21 dX12_busy_90 5 rfl (by decide) (by decide) rfl ?_
          refine g_goto C 44 dX12_busy_93 rfl ?_
          refine g_sub [2, 3, 4, 5, 1, 0] rfl rfl ?_
          exact H_44 _ _ _ _ _ _ _ T0 h
end
theorem cX12_busy_ok (l : Launch) {E : En_} {sz : Int} (hC : Cl_ E.2.2.2.2.2 sz) {x0 x1 x2 x3 : Int} {v : V_} {out : Int × V_} (T0 : (E.2.2.2.2.2 x0 ∧ ty_ x0 = 12 ∧ ln_ x0 = 0)) (h : fX12_busy x0 x1 x2 x3 v = some out) : Met l yX12_busy [.code yX12_busy cX12_busy 6 (some FieldType.int)] (rm_ 6 133) (Pc_ E sz v [(2, x0), (0, x1), (0, x2), (0, x3)]) (Qc_ E sz 0 out.1 out.2) 0 0 (fun q => E.1 < q) := by
  refine met_G0 RX12 (by decide +kernel) rfl (Nat.le_of_ble_eq_true rfl) ?_
  intro p e s m args below meth c C hr hlk
  rw [fX12_busy] at h
  refine g_aload_n C (f := 0) dX12_busy_0 0 rfl ?_
  obtain ⟨q1, eq1, h⟩ := bd_e h
  refine g_cV C [] (cX12_plansAll_ok l hC T0 eq1) okX12 T0.2.1 (rg_ hC T0.1) km_RX12_542 cv_X12_plansAll rfl (by decide) rfl rfl (Nat.le_of_ble_eq_true rfl) dX12_busy_1 ?_
  refine g_aload_n C (f := 0) dX12_busy_4 0 rfl ?_
  refine g_iload_n C (f := 1) dX12_busy_5 1 rfl ?_
  obtain ⟨q2, eq2, h⟩ := bd_e h
  refine g_cV C [(0, x1)] (cX12_isTrace_ok l hC T0 eq2) okX12 T0.2.1 (rg_ hC T0.1) km_RX12_567 cv_X12_isTrace rfl (by decide) rfl rfl (Nat.le_of_ble_eq_true rfl) dX12_busy_6 ?_
  refine g_if_eq C 36 dX12_busy_9 rfl (fun c3 => ?_) (fun c3 => ?_)
  · replace h := if_t h c3
    refine g_iconst C (n := (-1)) dX12_busy_36 (by decide) ?_
    cases h
    exact g_iret C dX12_busy_37 hr hlk
  · replace h := if_f h c3
    refine g_iload_n C (f := 2) dX12_busy_12 2 rfl ?_
    refine g_iconst C (n := 0) dX12_busy_13 (by decide) ?_
    refine g_aload_n C (f := 0) dX12_busy_14 0 rfl ?_
    refine g_iload_n C (f := 1) dX12_busy_15 1 rfl ?_
    obtain ⟨q4, eq4, h⟩ := bd_e h
    refine g_cV C [(0, x1)] (cX12_lengthOf_ok l hC T0 eq4) okX12 T0.2.1 (rg_ hC T0.1) km_RX12_521 cv_X12_lengthOf rfl (by decide) rfl rfl (Nat.le_of_ble_eq_true rfl) dX12_busy_16 ?_
    refine g_iconst C (n := 1) dX12_busy_19 (by decide) ?_
    refine g_isub C dX12_busy_20 ?_
    obtain ⟨q5, eq5, h⟩ := bd_e h
    refine g_cS C [(0, x2), (0, 0), (0, wr_ (q4.1 - 1))] (cX12_in_ok l hC eq5) km_RX12_334 cs_X12_in rfl (by decide) rfl rfl (Nat.le_of_ble_eq_true rfl) dX12_busy_21 ?_
    refine g_if_eq C 36 dX12_busy_24 rfl (fun c6 => ?_) (fun c6 => ?_)
    · replace h := if_t h c6
      refine g_iconst C (n := (-1)) dX12_busy_36 (by decide) ?_
      cases h
      exact g_iret C dX12_busy_37 hr hlk
    · replace h := if_f h c6
      refine g_iload_n C (f := 3) dX12_busy_27 3 rfl ?_
      refine g_iconst C (n := 0) dX12_busy_28 (by decide) ?_
      refine g_iconst C (n := 3) dX12_busy_29 (by decide) ?_
      obtain ⟨q7, eq7, h⟩ := bd_e h
      refine g_cS C [(0, x3), (0, 0), (0, 3)] (cX12_in_ok l hC eq7) km_RX12_334 cs_X12_in rfl (by decide) rfl rfl (Nat.le_of_ble_eq_true rfl) dX12_busy_30 ?_
      refine g_if_ne C 38 dX12_busy_33 rfl (fun c8 => ?_) (fun c8 => ?_)
      · replace h := if_f h c8
        refine g_iconst C (n := 0) dX12_busy_38 (by decide) ?_
        refine g_istore C (i := 4) (ls' := [(4, (0, 0)), (0, (2, x0)), (1, (0, x1)), (2, (0, x2)), (3, (0, x3))]) dX12_busy_39 (by decide) rfl ?_
        refine g_iconst C (n := 0) dX12_busy_41 (by decide) ?_
        refine g_istore C (i := 5) (ls' := [(5, (0, 0)), (4, (0, 0)), (0, (2, x0)), (1, (0, x1)), (2, (0, x2)), (3, (0, x3))]) dX12_busy_42 (by decide) rfl ?_
        refine g_sub [2, 3, 4, 5, 1, 0] rfl rfl ?_
        exact tX12_busy_44 C hr hlk hC _ _ _ _ _ _ _ _ T0 h
      · replace h := if_t h c8
        refine g_iconst C (n := (-1)) dX12_busy_36 (by decide) ?_
        cases h
        exact g_iret C dX12_busy_37 hr hlk
theorem dX12_byteAt_0 : decode cX12_byteAt 0 = .ok (.iload_n 1, 1) := by decide +kernel
theorem dX12_byteAt_1 : decode cX12_byteAt 1 = .ok (.aload_n 0, 1) := by decide +kernel
theorem dX12_byteAt_2 : decode cX12_byteAt 2 = .ok (.getfield 214, 3) := by decide +kernel
theorem dX12_byteAt_5 : decode cX12_byteAt 5 = .ok (.if_icmp .ge 16, 3) := by decide +kernel
theorem dX12_byteAt_8 : decode cX12_byteAt 8 = .ok (.aload_n 0, 1) := by decide +kernel
theorem dX12_byteAt_9 : decode cX12_byteAt 9 = .ok (.getfield 17, 3) := by decide +kernel
theorem dX12_byteAt_12 : decode cX12_byteAt 12 = .ok (.iload_n 1, 1) := by decide +kernel
theorem dX12_byteAt_13 : decode cX12_byteAt 13 = .ok (.baload, 1) := by decide +kernel
theorem dX12_byteAt_14 : decode cX12_byteAt 14 = .ok (.sipush 255, 3) := by decide +kernel
theorem dX12_byteAt_17 : decode cX12_byteAt 17 = .ok (.iand, 1) := by decide +kernel
theorem dX12_byteAt_18 : decode cX12_byteAt 18 = .ok (.goto 4, 3) := by decide +kernel
theorem dX12_byteAt_21 : decode cX12_byteAt 21 = .ok (.iconst 0, 1) := by decide +kernel
theorem dX12_byteAt_22 : decode cX12_byteAt 22 = .ok (.ireturn, 1) := by decide +kernel
def fX12_byteAt (x0 x1 : Int) (v : V_) : Option (Int × V_) :=
  if (v x0 4) ≤ x1 then (
    some (0, v))
  else (
    ck_ (0 ≤ x1 ∧ x1 < 2000) (
    some (bA_ (v (x0 + 2) x1) 255, v)))
theorem cX12_byteAt_ok (l : Launch) {E : En_} {sz : Int} (hC : Cl_ E.2.2.2.2.2 sz) {x0 x1 : Int} {v : V_} {out : Int × V_} (T0 : (E.2.2.2.2.2 x0 ∧ ty_ x0 = 12 ∧ ln_ x0 = 0)) (h : fX12_byteAt x0 x1 v = some out) : Met l yX12_byteAt [.code yX12_byteAt cX12_byteAt 2 (some FieldType.int)] (rm_ 0 0) (Pc_ E sz v [(2, x0), (0, x1)]) (Qc_ E sz 0 out.1 out.2) 0 0 (fun q => E.1 < q) := by
  refine met_G0 RX12 (by decide +kernel) rfl (Nat.le_of_ble_eq_true rfl) ?_
  intro p e s m args below meth c C hr hlk
  rw [fX12_byteAt] at h
  refine g_iload_n C (f := 1) dX12_byteAt_0 1 rfl ?_
  refine g_aload_n C (f := 0) dX12_byteAt_1 0 rfl ?_
  refine g_getf C (k := 4) (kd := 0) okX12 (by decide) kf_RX12_214 dX12_byteAt_2 (rg_ hC T0.1) T0.2.1 rfl ?_
  refine g_icmp_ge C 21 dX12_byteAt_5 rfl (fun c1 => ?_) (fun c1 => ?_)
  · replace h := if_t h c1
    refine g_iconst C (n := 0) dX12_byteAt_21 (by decide) ?_
    cases h
    exact g_iret C dX12_byteAt_22 hr hlk
  · replace h := if_f h c1
    refine g_aload_n C (f := 0) dX12_byteAt_8 0 rfl ?_
    have F2 := fX12_3 hC T0.1 T0.2.1
    refine g_getR C (k := 3) (o := 2) okX12 (by decide) kf_RX12_17 dX12_byteAt_9 hC T0.1 T0.2.1 rfl rfl ?_
    refine g_iload_n C (f := 1) dX12_byteAt_12 1 rfl ?_
    obtain ⟨c3, h⟩ := ck_e h
    refine g_bald C 2000 dX12_byteAt_13 (rg_ hC F2.1) F2.2.1 F2.2.2 c3 ?_
    refine g_sipush C (n := 255) dX12_byteAt_14 (by decide) ?_
    refine g_iand C dX12_byteAt_17 ?_
    refine g_goto C 22 dX12_byteAt_18 rfl ?_
    cases h
    exact g_iret C dX12_byteAt_22 hr hlk
theorem dX12_cell_0 : decode cX12_cell 0 = .ok (.iload_n 1, 1) := by decide +kernel
theorem dX12_cell_1 : decode cX12_cell 1 = .ok (.iconst 0, 1) := by decide +kernel
theorem dX12_cell_2 : decode cX12_cell 2 = .ok (.bipush 7, 2) := by decide +kernel
theorem dX12_cell_4 : decode cX12_cell 4 = .ok (.invokestatic 334, 3) := by decide +kernel
theorem dX12_cell_7 : decode cX12_cell 7 = .ok (.ifCond .eq 15, 3) := by decide +kernel
theorem dX12_cell_10 : decode cX12_cell 10 = .ok (.aload_n 0, 1) := by decide +kernel
theorem dX12_cell_11 : decode cX12_cell 11 = .ok (.getfield 85, 3) := by decide +kernel
theorem dX12_cell_14 : decode cX12_cell 14 = .ok (.bipush 6, 2) := by decide +kernel
theorem dX12_cell_16 : decode cX12_cell 16 = .ok (.iload_n 1, 1) := by decide +kernel
theorem dX12_cell_17 : decode cX12_cell 17 = .ok (.iadd, 1) := by decide +kernel
theorem dX12_cell_18 : decode cX12_cell 18 = .ok (.iaload, 1) := by decide +kernel
theorem dX12_cell_19 : decode cX12_cell 19 = .ok (.goto 4, 3) := by decide +kernel
theorem dX12_cell_22 : decode cX12_cell 22 = .ok (.iconst 0, 1) := by decide +kernel
theorem dX12_cell_23 : decode cX12_cell 23 = .ok (.ireturn, 1) := by decide +kernel
def fX12_cell (x0 x1 : Int) (v : V_) : Option (Int × V_) :=
  bd_ (fX12_in x1 0 7 v) fun q1 =>
  if q1.1 = 0 then (
    some (0, q1.2))
  else (
    ck_ (0 ≤ wr_ (6 + x1) ∧ wr_ (6 + x1) < 47) (
    some (q1.2 (x0 + 23) (wr_ (6 + x1)), q1.2)))
theorem cX12_cell_ok (l : Launch) {E : En_} {sz : Int} (hC : Cl_ E.2.2.2.2.2 sz) {x0 x1 : Int} {v : V_} {out : Int × V_} (T0 : (E.2.2.2.2.2 x0 ∧ ty_ x0 = 12 ∧ ln_ x0 = 0)) (h : fX12_cell x0 x1 v = some out) : Met l yX12_cell [.code yX12_cell cX12_cell 2 (some FieldType.int)] (rm_ 1 22) (Pc_ E sz v [(2, x0), (0, x1)]) (Qc_ E sz 0 out.1 out.2) 0 0 (fun q => E.1 < q) := by
  refine met_G0 RX12 (by decide +kernel) rfl (Nat.le_of_ble_eq_true rfl) ?_
  intro p e s m args below meth c C hr hlk
  rw [fX12_cell] at h
  refine g_iload_n C (f := 1) dX12_cell_0 1 rfl ?_
  refine g_iconst C (n := 0) dX12_cell_1 (by decide) ?_
  refine g_bipush C (n := 7) dX12_cell_2 (by decide) ?_
  obtain ⟨q1, eq1, h⟩ := bd_e h
  refine g_cS C [(0, x1), (0, 0), (0, 7)] (cX12_in_ok l hC eq1) km_RX12_334 cs_X12_in rfl (by decide) rfl rfl (Nat.le_of_ble_eq_true rfl) dX12_cell_4 ?_
  refine g_if_eq C 22 dX12_cell_7 rfl (fun c2 => ?_) (fun c2 => ?_)
  · replace h := if_t h c2
    refine g_iconst C (n := 0) dX12_cell_22 (by decide) ?_
    cases h
    exact g_iret C dX12_cell_23 hr hlk
  · replace h := if_f h c2
    refine g_aload_n C (f := 0) dX12_cell_10 0 rfl ?_
    have F3 := fX12_36 hC T0.1 T0.2.1
    refine g_getR C (k := 36) (o := 23) okX12 (by decide) kf_RX12_85 dX12_cell_11 hC T0.1 T0.2.1 rfl rfl ?_
    refine g_bipush C (n := 6) dX12_cell_14 (by decide) ?_
    refine g_iload_n C (f := 1) dX12_cell_16 1 rfl ?_
    refine g_iadd C dX12_cell_17 ?_
    obtain ⟨c4, h⟩ := ck_e h
    refine g_iald C 47 dX12_cell_18 (rg_ hC F3.1) F3.2.1 F3.2.2 c4 ?_
    refine g_goto C 23 dX12_cell_19 rfl ?_
    cases h
    exact g_iret C dX12_cell_23 hr hlk
theorem dX12_clear_0 : decode cX12_clear 0 = .ok (.aload_n 0, 1) := by decide +kernel
theorem dX12_clear_1 : decode cX12_clear 1 = .ok (.invokevirtual 561, 3) := by decide +kernel
theorem dX12_clear_4 : decode cX12_clear 4 = .ok (.istore_n 1, 1) := by decide +kernel
theorem dX12_clear_5 : decode cX12_clear 5 = .ok (.iload_n 1, 1) := by decide +kernel
theorem dX12_clear_6 : decode cX12_clear 6 = .ok (.ifCond .ne 5, 3) := by decide +kernel
theorem dX12_clear_9 : decode cX12_clear 9 = .ok (.iconst (-1), 1) := by decide +kernel
theorem dX12_clear_10 : decode cX12_clear 10 = .ok (.ireturn, 1) := by decide +kernel
theorem dX12_clear_11 : decode cX12_clear 11 = .ok (.aload_n 0, 1) := by decide +kernel
theorem dX12_clear_12 : decode cX12_clear 12 = .ok (.invokevirtual 476, 3) := by decide +kernel
theorem dX12_clear_15 : decode cX12_clear 15 = .ok (.bipush 14, 2) := by decide +kernel
theorem dX12_clear_17 : decode cX12_clear 17 = .ok (.istore_n 2, 1) := by decide +kernel
theorem dX12_clear_18 : decode cX12_clear 18 = .ok (.iload_n 2, 1) := by decide +kernel
theorem dX12_clear_19 : decode cX12_clear 19 = .ok (.bipush 38, 2) := by decide +kernel
theorem dX12_clear_21 : decode cX12_clear 21 = .ok (.if_icmp .ge 16, 3) := by decide +kernel
theorem dX12_clear_24 : decode cX12_clear 24 = .ok (.aload_n 0, 1) := by decide +kernel
theorem dX12_clear_25 : decode cX12_clear 25 = .ok (.getfield 88, 3) := by decide +kernel
theorem dX12_clear_28 : decode cX12_clear 28 = .ok (.iload_n 2, 1) := by decide +kernel
theorem dX12_clear_29 : decode cX12_clear 29 = .ok (.iconst 0, 1) := by decide +kernel
theorem dX12_clear_30 : decode cX12_clear 30 = .ok (.iastore, 1) := by decide +kernel
theorem dX12_clear_31 : decode cX12_clear 31 = .ok (.iinc 2 1, 3) := by decide +kernel
theorem dX12_clear_34 : decode cX12_clear 34 = .ok (.goto (-16), 3) := by decide +kernel
theorem dX12_clear_37 : decode cX12_clear 37 = .ok (.aload_n 0, 1) := by decide +kernel
theorem dX12_clear_38 : decode cX12_clear 38 = .ok (.invokevirtual 548, 3) := by decide +kernel
theorem dX12_clear_41 : decode cX12_clear 41 = .ok (.iload_n 1, 1) := by decide +kernel
theorem dX12_clear_42 : decode cX12_clear 42 = .ok (.ireturn, 1) := by decide +kernel
def fX12_clear_18 : Nat → Int → Int → Int → V_ → Option (Int × V_)
  | 0, _, _, _, _ => none
  | n + 1, x0, x1, x2, v =>
    if 38 ≤ x2 then (
      bd_ (fX12_records x0 v) fun q5 =>
      some (x1, q5.2))
    else (
      ck_ (0 ≤ x2 ∧ x2 < 47) (
      lt_ (up_ v (x0 + 24) x2 0) fun v8 =>
      lt_ (wr_ (x2 + 1)) fun y9 =>
      (fX12_clear_18 n) x0 x1 y9 v8))
def fX12_clear (x0 : Int) (v : V_) : Option (Int × V_) :=
  bd_ (fX12_begunAll x0 v) fun q1 =>
  if q1.1 = 0 then (
    some ((-1), q1.2))
  else (
    bd_ (fX12_copies x0 q1.2) fun q3 =>
    fX12_clear_18 fu_ x0 q1.1 14 q3.2)
section
variable {E : En_} {p : Program} {l : Launch} {e : Env} {s : State} {m : MethodId} {args : Array Value} {below : List Frame} {meth : Method} {c : Code} {sz : Int}
theorem tX12_clear_18 (C : MC_ E p s m c cX12_clear 3 RX12) (hr : meth.sig.returnType = (some FieldType.int)) (hlk : meth.locks = false) (hC : Cl_ E.2.2.2.2.2 sz) {out : Int × V_} : ∀ (n : Nat) (x0 x1 x2 : Int) (v : V_), (E.2.2.2.2.2 x0 ∧ ty_ x0 = 12 ∧ ln_ x0 = 0) → fX12_clear_18 n x0 x1 x2 v = some out → G_ E p l e (rm_ 2 42) s m args below meth c 3 sz (Q_ E below args s sz sz 0 out.1 out.2) 18 [(0, (2, x0)), (1, (0, x1)), (2, (0, x2))] [] v sz := by
  intro n
  induction n with
  | zero =>
    intro x0 x1 x2 v T0 h
    cases h
  | succ n H_18 =>
    intro x0 x1 x2 v T0 h
    rw [fX12_clear_18] at h
    refine g_iload_n C (f := 2) dX12_clear_18 2 rfl ?_
    refine g_bipush C (n := 38) dX12_clear_19 (by decide) ?_
    refine g_icmp_ge C 37 dX12_clear_21 rfl (fun c4 => ?_) (fun c4 => ?_)
    · replace h := if_t h c4
      refine g_aload_n C (f := 0) dX12_clear_37 0 rfl ?_
      obtain ⟨q5, eq5, h⟩ := bd_e h
      refine g_cV C [] (cX12_records_ok l hC T0 eq5) okX12 T0.2.1 (rg_ hC T0.1) km_RX12_548 cv_X12_records rfl (by decide) rfl rfl (Nat.le_of_ble_eq_true rfl) dX12_clear_38 ?_
      refine g_iload_n C (f := 1) dX12_clear_41 1 rfl ?_
      cases h
      exact g_iret C dX12_clear_42 hr hlk
    · replace h := if_f h c4
      refine g_aload_n C (f := 0) dX12_clear_24 0 rfl ?_
      have F6 := fX12_37 hC T0.1 T0.2.1
      refine g_getR C (k := 37) (o := 24) okX12 (by decide) kf_RX12_88 dX12_clear_25 hC T0.1 T0.2.1 rfl rfl ?_
      refine g_iload_n C (f := 2) dX12_clear_28 2 rfl ?_
      refine g_iconst C (n := 0) dX12_clear_29 (by decide) ?_
      obtain ⟨c7, h⟩ := ck_e h
      obtain ⟨v8, ev8, h⟩ := lt_e h
      refine g_iast C 47 dX12_clear_30 (rg_ hC F6.1) F6.2.1 F6.2.2 c7 v8 ev8 ?_
      obtain ⟨y9, ey9, h⟩ := lt_e h
      refine g_iincx C (ls' := [(2, (0, y9)), (0, (2, x0)), (1, (0, x1))]) ey9 dX12_clear_31 2 rfl (by decide) (by decide) rfl ?_
      refine g_goto C 18 dX12_clear_34 rfl ?_
      refine g_sub [1, 2, 0] rfl rfl ?_
      exact H_18 _ _ _ _ T0 h
end
theorem cX12_clear_ok (l : Launch) {E : En_} {sz : Int} (hC : Cl_ E.2.2.2.2.2 sz) {x0 : Int} {v : V_} {out : Int × V_} (T0 : (E.2.2.2.2.2 x0 ∧ ty_ x0 = 12 ∧ ln_ x0 = 0)) (h : fX12_clear x0 v = some out) : Met l yX12_clear [.code yX12_clear cX12_clear 3 (some FieldType.int)] (rm_ 2 42) (Pc_ E sz v [(2, x0)]) (Qc_ E sz 0 out.1 out.2) 0 0 (fun q => E.1 < q) := by
  refine met_G0 RX12 (by decide +kernel) rfl (Nat.le_of_ble_eq_true rfl) ?_
  intro p e s m args below meth c C hr hlk
  rw [fX12_clear] at h
  refine g_aload_n C (f := 0) dX12_clear_0 0 rfl ?_
  obtain ⟨q1, eq1, h⟩ := bd_e h
  refine g_cV C [] (cX12_begunAll_ok l hC T0 eq1) okX12 T0.2.1 (rg_ hC T0.1) km_RX12_561 cv_X12_begunAll rfl (by decide) rfl rfl (Nat.le_of_ble_eq_true rfl) dX12_clear_1 ?_
  refine g_istore_n C (f := 1) (ls' := [(1, (0, q1.1)), (0, (2, x0))]) dX12_clear_4 (by decide) rfl ?_
  refine g_iload_n C (f := 1) dX12_clear_5 0 rfl ?_
  refine g_if_ne C 11 dX12_clear_6 rfl (fun c2 => ?_) (fun c2 => ?_)
  · replace h := if_f h c2
    refine g_aload_n C (f := 0) dX12_clear_11 1 rfl ?_
    obtain ⟨q3, eq3, h⟩ := bd_e h
    refine g_cV C [] (cX12_copies_ok l hC T0 eq3) okX12 T0.2.1 (rg_ hC T0.1) km_RX12_476 cv_X12_copies rfl (by decide) rfl rfl (Nat.le_of_ble_eq_true rfl) dX12_clear_12 ?_
    refine g_bipush C (n := 14) dX12_clear_15 (by decide) ?_
    refine g_istore_n C (f := 2) (ls' := [(2, (0, 14)), (1, (0, q1.1)), (0, (2, x0))]) dX12_clear_17 (by decide) rfl ?_
    refine g_sub [2, 1, 0] rfl rfl ?_
    exact tX12_clear_18 C hr hlk hC _ _ _ _ _ T0 h
  · replace h := if_t h c2
    refine g_iconst C (n := (-1)) dX12_clear_9 (by decide) ?_
    cases h
    exact g_iret C dX12_clear_10 hr hlk
theorem dX12_isItem_0 : decode cX12_isItem 0 = .ok (.aload_n 0, 1) := by decide +kernel
theorem dX12_isItem_1 : decode cX12_isItem 1 = .ok (.iload_n 1, 1) := by decide +kernel
theorem dX12_isItem_2 : decode cX12_isItem 2 = .ok (.invokevirtual 567, 3) := by decide +kernel
theorem dX12_isItem_5 : decode cX12_isItem 5 = .ok (.ifCond .eq 23, 3) := by decide +kernel
theorem dX12_isItem_8 : decode cX12_isItem 8 = .ok (.iload_n 2, 1) := by decide +kernel
theorem dX12_isItem_9 : decode cX12_isItem 9 = .ok (.iconst 0, 1) := by decide +kernel
theorem dX12_isItem_10 : decode cX12_isItem 10 = .ok (.aload_n 0, 1) := by decide +kernel
theorem dX12_isItem_11 : decode cX12_isItem 11 = .ok (.getfield 118, 3) := by decide +kernel
theorem dX12_isItem_14 : decode cX12_isItem 14 = .ok (.iload_n 1, 1) := by decide +kernel
theorem dX12_isItem_15 : decode cX12_isItem 15 = .ok (.iaload, 1) := by decide +kernel
theorem dX12_isItem_16 : decode cX12_isItem 16 = .ok (.iconst 1, 1) := by decide +kernel
theorem dX12_isItem_17 : decode cX12_isItem 17 = .ok (.isub, 1) := by decide +kernel
theorem dX12_isItem_18 : decode cX12_isItem 18 = .ok (.invokestatic 334, 3) := by decide +kernel
theorem dX12_isItem_21 : decode cX12_isItem 21 = .ok (.ifCond .eq 7, 3) := by decide +kernel
theorem dX12_isItem_24 : decode cX12_isItem 24 = .ok (.iconst 1, 1) := by decide +kernel
theorem dX12_isItem_25 : decode cX12_isItem 25 = .ok (.goto 4, 3) := by decide +kernel
theorem dX12_isItem_28 : decode cX12_isItem 28 = .ok (.iconst 0, 1) := by decide +kernel
theorem dX12_isItem_29 : decode cX12_isItem 29 = .ok (.ireturn, 1) := by decide +kernel
def fX12_isItem (x0 x1 x2 : Int) (v : V_) : Option (Int × V_) :=
  bd_ (fX12_isTrace x0 x1 v) fun q1 =>
  if q1.1 = 0 then (
    some (0, q1.2))
  else (
    ck_ (0 ≤ x1 ∧ x1 < 8) (
    bd_ (fX12_in x2 0 (wr_ ((q1.2 (x0 + 34) x1) - 1)) q1.2) fun q5 =>
    if q5.1 = 0 then (
      some (0, q5.2))
    else (
      some (1, q5.2))))
theorem cX12_isItem_ok (l : Launch) {E : En_} {sz : Int} (hC : Cl_ E.2.2.2.2.2 sz) {x0 x1 x2 : Int} {v : V_} {out : Int × V_} (T0 : (E.2.2.2.2.2 x0 ∧ ty_ x0 = 12 ∧ ln_ x0 = 0)) (h : fX12_isItem x0 x1 x2 v = some out) : Met l yX12_isItem [.code yX12_isItem cX12_isItem 3 (some FieldType.boolean)] (rm_ 2 43) (Pc_ E sz v [(2, x0), (0, x1), (0, x2)]) (Qc_ E sz 0 out.1 out.2) 0 0 (fun q => E.1 < q) := by
  refine met_G0 RX12 (by decide +kernel) rfl (Nat.le_of_ble_eq_true rfl) ?_
  intro p e s m args below meth c C hr hlk
  rw [fX12_isItem] at h
  refine g_aload_n C (f := 0) dX12_isItem_0 0 rfl ?_
  refine g_iload_n C (f := 1) dX12_isItem_1 1 rfl ?_
  obtain ⟨q1, eq1, h⟩ := bd_e h
  refine g_cV C [(0, x1)] (cX12_isTrace_ok l hC T0 eq1) okX12 T0.2.1 (rg_ hC T0.1) km_RX12_567 cv_X12_isTrace rfl (by decide) rfl rfl (Nat.le_of_ble_eq_true rfl) dX12_isItem_2 ?_
  refine g_if_eq C 28 dX12_isItem_5 rfl (fun c2 => ?_) (fun c2 => ?_)
  · replace h := if_t h c2
    refine g_iconst C (n := 0) dX12_isItem_28 (by decide) ?_
    cases h
    exact g_zret C dX12_isItem_29 hr hlk (Or.inl rfl)
  · replace h := if_f h c2
    refine g_iload_n C (f := 2) dX12_isItem_8 2 rfl ?_
    refine g_iconst C (n := 0) dX12_isItem_9 (by decide) ?_
    refine g_aload_n C (f := 0) dX12_isItem_10 0 rfl ?_
    have F3 := fX12_53 hC T0.1 T0.2.1
    refine g_getR C (k := 53) (o := 34) okX12 (by decide) kf_RX12_118 dX12_isItem_11 hC T0.1 T0.2.1 rfl rfl ?_
    refine g_iload_n C (f := 1) dX12_isItem_14 1 rfl ?_
    obtain ⟨c4, h⟩ := ck_e h
    refine g_iald C 8 dX12_isItem_15 (rg_ hC F3.1) F3.2.1 F3.2.2 c4 ?_
    refine g_iconst C (n := 1) dX12_isItem_16 (by decide) ?_
    refine g_isub C dX12_isItem_17 ?_
    obtain ⟨q5, eq5, h⟩ := bd_e h
    refine g_cS C [(0, x2), (0, 0), (0, wr_ ((q1.2 (x0 + 34) x1) - 1))] (cX12_in_ok l hC eq5) km_RX12_334 cs_X12_in rfl (by decide) rfl rfl (Nat.le_of_ble_eq_true rfl) dX12_isItem_18 ?_
    refine g_if_eq C 28 dX12_isItem_21 rfl (fun c6 => ?_) (fun c6 => ?_)
    · replace h := if_t h c6
      refine g_iconst C (n := 0) dX12_isItem_28 (by decide) ?_
      cases h
      exact g_zret C dX12_isItem_29 hr hlk (Or.inl rfl)
    · replace h := if_f h c6
      refine g_iconst C (n := 1) dX12_isItem_24 (by decide) ?_
      refine g_goto C 29 dX12_isItem_25 rfl ?_
      cases h
      exact g_zret C dX12_isItem_29 hr hlk (Or.inr rfl)
theorem dX12_copied_0 : decode cX12_copied 0 = .ok (.aload_n 0, 1) := by decide +kernel
theorem dX12_copied_1 : decode cX12_copied 1 = .ok (.invokevirtual 542, 3) := by decide +kernel
theorem dX12_copied_4 : decode cX12_copied 4 = .ok (.aload_n 0, 1) := by decide +kernel
theorem dX12_copied_5 : decode cX12_copied 5 = .ok (.iload_n 1, 1) := by decide +kernel
theorem dX12_copied_6 : decode cX12_copied 6 = .ok (.iload_n 2, 1) := by decide +kernel
theorem dX12_copied_7 : decode cX12_copied 7 = .ok (.invokevirtual 585, 3) := by decide +kernel
theorem dX12_copied_10 : decode cX12_copied 10 = .ok (.ifCond .eq 7, 3) := by decide +kernel
theorem dX12_copied_13 : decode cX12_copied 13 = .ok (.iload_n 3, 1) := by decide +kernel
theorem dX12_copied_14 : decode cX12_copied 14 = .ok (.ifCond .ge 5, 3) := by decide +kernel
theorem dX12_copied_17 : decode cX12_copied 17 = .ok (.iconst (-1), 1) := by decide +kernel
theorem dX12_copied_18 : decode cX12_copied 18 = .ok (.ireturn, 1) := by decide +kernel
theorem dX12_copied_19 : decode cX12_copied 19 = .ok (.iload_n 3, 1) := by decide +kernel
theorem dX12_copied_20 : decode cX12_copied 20 = .ok (.istore 4, 2) := by decide +kernel
theorem dX12_copied_22 : decode cX12_copied 22 = .ok (.iconst 0, 1) := by decide +kernel
theorem dX12_copied_23 : decode cX12_copied 23 = .ok (.istore 5, 2) := by decide +kernel
theorem dX12_copied_25 : decode cX12_copied 25 = .ok (.iload 5, 2) := by decide +kernel
theorem dX12_copied_27 : decode cX12_copied 27 = .ok (.iload_n 2, 1) := by decide +kernel
theorem dX12_copied_28 : decode cX12_copied 28 = .ok (.if_icmp .ge 34, 3) := by decide +kernel
theorem dX12_copied_31 : decode cX12_copied 31 = .ok (.aload_n 0, 1) := by decide +kernel
theorem dX12_copied_32 : decode cX12_copied 32 = .ok (.iload_n 1, 1) := by decide +kernel
theorem dX12_copied_33 : decode cX12_copied 33 = .ok (.iload_n 2, 1) := by decide +kernel
theorem dX12_copied_34 : decode cX12_copied 34 = .ok (.iload 5, 2) := by decide +kernel
theorem dX12_copied_36 : decode cX12_copied 36 = .ok (.invokevirtual 497, 3) := by decide +kernel
theorem dX12_copied_39 : decode cX12_copied 39 = .ok (.ifCond .ne 6, 3) := by decide +kernel
theorem dX12_copied_42 : decode cX12_copied 42 = .ok (.goto 14, 3) := by decide +kernel
theorem dX12_copied_45 : decode cX12_copied 45 = .ok (.iload 4, 2) := by decide +kernel
theorem dX12_copied_47 : decode cX12_copied 47 = .ok (.ifCond .ne 6, 3) := by decide +kernel
theorem dX12_copied_50 : decode cX12_copied 50 = .ok (.iload 5, 2) := by decide +kernel
theorem dX12_copied_52 : decode cX12_copied 52 = .ok (.ireturn, 1) := by decide +kernel
theorem dX12_copied_53 : decode cX12_copied 53 = .ok (.iinc 4 (-1), 3) := by decide +kernel
theorem dX12_copied_56 : decode cX12_copied 56 = .ok (.iinc 5 1, 3) := by decide +kernel
theorem dX12_copied_59 : decode cX12_copied 59 = .ok (.goto (-34), 3) := by decide +kernel
theorem dX12_copied_62 : decode cX12_copied 62 = .ok (.iconst (-1), 1) := by decide +kernel
theorem dX12_copied_63 : decode cX12_copied 63 = .ok (.ireturn, 1) := by decide +kernel
def fX12_copied_25 : Nat → Int → Int → Int → Int → Int → V_ → Option (Int × V_)
  | 0, _, _, _, _, _, _ => none
  | n + 1, x0, x1, x2, x4, x5, v =>
    if x2 ≤ x5 then (
      some ((-1), v))
    else (
      bd_ (fX12_isCopied x0 x1 x2 x5 v) fun q6 =>
      if q6.1 = 0 then (
        lt_ (wr_ (x5 + 1)) fun y11 =>
        (fX12_copied_25 n) x0 x1 x2 x4 y11 q6.2)
      else (
        if x4 = 0 then (
          some (x5, q6.2))
        else (
          lt_ (wr_ (x4 + (-1))) fun y9 =>
          lt_ (wr_ (x5 + 1)) fun y10 =>
          (fX12_copied_25 n) x0 x1 x2 y9 y10 q6.2)))
def fX12_copied (x0 x1 x2 x3 : Int) (v : V_) : Option (Int × V_) :=
  bd_ (fX12_plansAll x0 v) fun q1 =>
  bd_ (fX12_isItem x0 x1 x2 q1.2) fun q2 =>
  if q2.1 = 0 then (
    some ((-1), q2.2))
  else (
    if 0 ≤ x3 then (
      fX12_copied_25 fu_ x0 x1 x2 x3 0 q2.2)
    else (
      some ((-1), q2.2)))
section
variable {E : En_} {p : Program} {l : Launch} {e : Env} {s : State} {m : MethodId} {args : Array Value} {below : List Frame} {meth : Method} {c : Code} {sz : Int}
theorem tX12_copied_25 (C : MC_ E p s m c cX12_copied 6 RX12) (hr : meth.sig.returnType = (some FieldType.int)) (hlk : meth.locks = false) (hC : Cl_ E.2.2.2.2.2 sz) {out : Int × V_} : ∀ (n : Nat) (x0 x1 x2 x4 x5 : Int) (v : V_), (E.2.2.2.2.2 x0 ∧ ty_ x0 = 12 ∧ ln_ x0 = 0) → fX12_copied_25 n x0 x1 x2 x4 x5 v = some out → G_ E p l e (rm_ 6 133) s m args below meth c 6 sz (Q_ E below args s sz sz 0 out.1 out.2) 25 [(0, (2, x0)), (1, (0, x1)), (2, (0, x2)), (4, (0, x4)), (5, (0, x5))] [] v sz := by
  intro n
  induction n with
  | zero =>
    intro x0 x1 x2 x4 x5 v T0 h
    cases h
  | succ n H_25 =>
    intro x0 x1 x2 x4 x5 v T0 h
    rw [fX12_copied_25] at h
    refine g_iload C (i := 5) dX12_copied_25 4 rfl ?_
    refine g_iload_n C (f := 2) dX12_copied_27 2 rfl ?_
    refine g_icmp_ge C 62 dX12_copied_28 rfl (fun c5 => ?_) (fun c5 => ?_)
    · replace h := if_t h c5
      refine g_iconst C (n := (-1)) dX12_copied_62 (by decide) ?_
      cases h
      exact g_iret C dX12_copied_63 hr hlk
    · replace h := if_f h c5
      refine g_aload_n C (f := 0) dX12_copied_31 0 rfl ?_
      refine g_iload_n C (f := 1) dX12_copied_32 1 rfl ?_
      refine g_iload_n C (f := 2) dX12_copied_33 2 rfl ?_
      refine g_iload C (i := 5) dX12_copied_34 4 rfl ?_
      obtain ⟨q6, eq6, h⟩ := bd_e h
      refine g_cV C [(0, x1), (0, x2), (0, x5)] (cX12_isCopied_ok l hC T0 eq6) okX12 T0.2.1 (rg_ hC T0.1) km_RX12_497 cv_X12_isCopied rfl (by decide) rfl rfl (Nat.le_of_ble_eq_true rfl) dX12_copied_36 ?_
      refine g_if_ne C 45 dX12_copied_39 rfl (fun c7 => ?_) (fun c7 => ?_)
      · replace h := if_f h c7
        refine g_iload C (i := 4) dX12_copied_45 3 rfl ?_
        refine g_if_ne C 53 dX12_copied_47 rfl (fun c8 => ?_) (fun c8 => ?_)
        · replace h := if_f h c8
          obtain ⟨y9, ey9, h⟩ := lt_e h
          refine g_iincx C (ls' := [(4, (0, y9)), (0, (2, x0)), (1, (0, x1)), (2, (0, x2)), (5, (0, x5))]) ey9 dX12_copied_53 3 rfl (by decide) (by decide) rfl ?_
          obtain ⟨y10, ey10, h⟩ := lt_e h
          refine g_iincx C (ls' := [(5, (0, y10)), (4, (0, y9)), (0, (2, x0)), (1, (0, x1)), (2, (0, x2))]) ey10 dX12_copied_56 4 rfl (by decide) (by decide) rfl ?_
          refine g_goto C 25 dX12_copied_59 rfl ?_
          refine g_sub [2, 3, 4, 1, 0] rfl rfl ?_
          exact H_25 _ _ _ _ _ _ T0 h
        · replace h := if_t h c8
          refine g_iload C (i := 5) dX12_copied_50 4 rfl ?_
          cases h
          exact g_iret C dX12_copied_52 hr hlk
      · replace h := if_t h c7
        refine g_goto C 56 dX12_copied_42 rfl ?_
        obtain ⟨y11, ey11, h⟩ := lt_e h
        refine g_iincx C (ls' := [(5, (0, y11)), (0, (2, x0)), (1, (0, x1)), (2, (0, x2)), (4, (0, x4))]) ey11 dX12_copied_56 4 rfl (by decide) (by decide) rfl ?_
        refine g_goto C 25 dX12_copied_59 rfl ?_
        refine g_sub [1, 2, 3, 4, 0] rfl rfl ?_
        exact H_25 _ _ _ _ _ _ T0 h
end
theorem cX12_copied_ok (l : Launch) {E : En_} {sz : Int} (hC : Cl_ E.2.2.2.2.2 sz) {x0 x1 x2 x3 : Int} {v : V_} {out : Int × V_} (T0 : (E.2.2.2.2.2 x0 ∧ ty_ x0 = 12 ∧ ln_ x0 = 0)) (h : fX12_copied x0 x1 x2 x3 v = some out) : Met l yX12_copied [.code yX12_copied cX12_copied 6 (some FieldType.int)] (rm_ 6 133) (Pc_ E sz v [(2, x0), (0, x1), (0, x2), (0, x3)]) (Qc_ E sz 0 out.1 out.2) 0 0 (fun q => E.1 < q) := by
  refine met_G0 RX12 (by decide +kernel) rfl (Nat.le_of_ble_eq_true rfl) ?_
  intro p e s m args below meth c C hr hlk
  rw [fX12_copied] at h
  refine g_aload_n C (f := 0) dX12_copied_0 0 rfl ?_
  obtain ⟨q1, eq1, h⟩ := bd_e h
  refine g_cV C [] (cX12_plansAll_ok l hC T0 eq1) okX12 T0.2.1 (rg_ hC T0.1) km_RX12_542 cv_X12_plansAll rfl (by decide) rfl rfl (Nat.le_of_ble_eq_true rfl) dX12_copied_1 ?_
  refine g_aload_n C (f := 0) dX12_copied_4 0 rfl ?_
  refine g_iload_n C (f := 1) dX12_copied_5 1 rfl ?_
  refine g_iload_n C (f := 2) dX12_copied_6 2 rfl ?_
  obtain ⟨q2, eq2, h⟩ := bd_e h
  refine g_cV C [(0, x1), (0, x2)] (cX12_isItem_ok l hC T0 eq2) okX12 T0.2.1 (rg_ hC T0.1) km_RX12_585 cv_X12_isItem rfl (by decide) rfl rfl (Nat.le_of_ble_eq_true rfl) dX12_copied_7 ?_
  refine g_if_eq C 17 dX12_copied_10 rfl (fun c3 => ?_) (fun c3 => ?_)
  · replace h := if_t h c3
    refine g_iconst C (n := (-1)) dX12_copied_17 (by decide) ?_
    cases h
    exact g_iret C dX12_copied_18 hr hlk
  · replace h := if_f h c3
    refine g_iload_n C (f := 3) dX12_copied_13 3 rfl ?_
    refine g_if_ge C 19 dX12_copied_14 rfl (fun c4 => ?_) (fun c4 => ?_)
    · replace h := if_t h c4
      refine g_iload_n C (f := 3) dX12_copied_19 3 rfl ?_
      refine g_istore C (i := 4) (ls' := [(4, (0, x3)), (0, (2, x0)), (1, (0, x1)), (2, (0, x2)), (3, (0, x3))]) dX12_copied_20 (by decide) rfl ?_
      refine g_iconst C (n := 0) dX12_copied_22 (by decide) ?_
      refine g_istore C (i := 5) (ls' := [(5, (0, 0)), (4, (0, x3)), (0, (2, x0)), (1, (0, x1)), (2, (0, x2)), (3, (0, x3))]) dX12_copied_23 (by decide) rfl ?_
      refine g_sub [2, 3, 4, 1, 0] rfl rfl ?_
      exact tX12_copied_25 C hr hlk hC _ _ _ _ _ _ _ T0 h
    · replace h := if_f h c4
      refine g_iconst C (n := (-1)) dX12_copied_17 (by decide) ?_
      cases h
      exact g_iret C dX12_copied_18 hr hlk
