theorem dX12_tellOne_0 : decode cX12_tellOne 0 = .ok (.aload_n 0, 1) := by decide +kernel
theorem dX12_tellOne_1 : decode cX12_tellOne 1 = .ok (.bipush 20, 2) := by decide +kernel
theorem dX12_tellOne_3 : decode cX12_tellOne 3 = .ok (.invokevirtual 263, 3) := by decide +kernel
theorem dX12_tellOne_6 : decode cX12_tellOne 6 = .ok (.ifCond .eq 12, 3) := by decide +kernel
theorem dX12_tellOne_9 : decode cX12_tellOne 9 = .ok (.aload_n 0, 1) := by decide +kernel
theorem dX12_tellOne_10 : decode cX12_tellOne 10 = .ok (.invokevirtual 266, 3) := by decide +kernel
theorem dX12_tellOne_13 : decode cX12_tellOne 13 = .ok (.aload_n 0, 1) := by decide +kernel
theorem dX12_tellOne_14 : decode cX12_tellOne 14 = .ok (.invokevirtual 294, 3) := by decide +kernel
theorem dX12_tellOne_17 : decode cX12_tellOne 17 = .ok (.return_, 1) := by decide +kernel
theorem dX12_tellOne_18 : decode cX12_tellOne 18 = .ok (.aload_n 0, 1) := by decide +kernel
theorem dX12_tellOne_19 : decode cX12_tellOne 19 = .ok (.bipush 21, 2) := by decide +kernel
theorem dX12_tellOne_21 : decode cX12_tellOne 21 = .ok (.invokevirtual 263, 3) := by decide +kernel
theorem dX12_tellOne_24 : decode cX12_tellOne 24 = .ok (.ifCond .ne 8, 3) := by decide +kernel
theorem dX12_tellOne_27 : decode cX12_tellOne 27 = .ok (.aload_n 0, 1) := by decide +kernel
theorem dX12_tellOne_28 : decode cX12_tellOne 28 = .ok (.iconst 1, 1) := by decide +kernel
theorem dX12_tellOne_29 : decode cX12_tellOne 29 = .ok (.invokevirtual 260, 3) := by decide +kernel
theorem dX12_tellOne_32 : decode cX12_tellOne 32 = .ok (.aload_n 0, 1) := by decide +kernel
theorem dX12_tellOne_33 : decode cX12_tellOne 33 = .ok (.getfield 245, 3) := by decide +kernel
theorem dX12_tellOne_36 : decode cX12_tellOne 36 = .ok (.ifCond .le 4, 3) := by decide +kernel
theorem dX12_tellOne_39 : decode cX12_tellOne 39 = .ok (.return_, 1) := by decide +kernel
theorem dX12_tellOne_40 : decode cX12_tellOne 40 = .ok (.aload_n 0, 1) := by decide +kernel
theorem dX12_tellOne_41 : decode cX12_tellOne 41 = .ok (.aload_n 0, 1) := by decide +kernel
theorem dX12_tellOne_42 : decode cX12_tellOne 42 = .ok (.getfield 43, 3) := by decide +kernel
theorem dX12_tellOne_45 : decode cX12_tellOne 45 = .ok (.aload_n 0, 1) := by decide +kernel
theorem dX12_tellOne_46 : decode cX12_tellOne 46 = .ok (.getfield 275, 3) := by decide +kernel
theorem dX12_tellOne_49 : decode cX12_tellOne 49 = .ok (.iaload, 1) := by decide +kernel
theorem dX12_tellOne_50 : decode cX12_tellOne 50 = .ok (.bipush 8, 2) := by decide +kernel
theorem dX12_tellOne_52 : decode cX12_tellOne 52 = .ok (.invokevirtual 297, 3) := by decide +kernel
theorem dX12_tellOne_55 : decode cX12_tellOne 55 = .ok (.aload_n 0, 1) := by decide +kernel
theorem dX12_tellOne_56 : decode cX12_tellOne 56 = .ok (.getfield 245, 3) := by decide +kernel
theorem dX12_tellOne_59 : decode cX12_tellOne 59 = .ok (.ifCond .ne 7, 3) := by decide +kernel
theorem dX12_tellOne_62 : decode cX12_tellOne 62 = .ok (.aload_n 0, 1) := by decide +kernel
theorem dX12_tellOne_63 : decode cX12_tellOne 63 = .ok (.invokevirtual 301, 3) := by decide +kernel
theorem dX12_tellOne_66 : decode cX12_tellOne 66 = .ok (.return_, 1) := by decide +kernel
def fX12_tellOne_32 (x0 : Int) (v : V_) : Option (Int × V_) :=
  if (v x0 13) ≤ 0 then (
    ck_ (0 ≤ v x0 19 ∧ v x0 19 < 2) (
    bd_ (fX12_roomFor x0 (v (x0 + 9) (v x0 19)) 8 v) fun q8 =>
    if (q8.2 x0 13) = 0 then (
      bd_ (fX12_tellBlock x0 q8.2) fun q10 =>
      some (0, q10.2))
    else (
      some (0, q8.2))))
  else (
    some (0, v))
def fX12_tellOne (x0 : Int) (v : V_) : Option (Int × V_) :=
  bd_ (fX12_is x0 20 v) fun q1 =>
  if q1.1 = 0 then (
    bd_ (fX12_is x0 21 q1.2) fun q3 =>
    if q3.1 = 0 then (
      bd_ (fX12_fail x0 1 q3.2) fun q11 =>
      fX12_tellOne_32 x0 q11.2)
    else (
      fX12_tellOne_32 x0 q3.2))
  else (
    bd_ (fX12_goesOn x0 q1.2) fun q12 =>
    bd_ (fX12_tellUnits x0 q12.2) fun q13 =>
    some (0, q13.2))
section
variable {E : En_} {p : Program} {l : Launch} {e : Env} {s : State} {m : MethodId} {args : Array Value} {below : List Frame} {meth : Method} {c : Code} {sz : Int}
theorem tX12_tellOne_32 (C : MC_ E p s m c cX12_tellOne 1 RX12) (hr : meth.sig.returnType = (none : Option FieldType)) (hlk : meth.locks = false) (hC : Cl_ E.2.2.2.2.2 sz) {out : Int × V_} (x0 : Int) (v : V_) (T0 : (E.2.2.2.2.2 x0 ∧ ty_ x0 = 12 ∧ ln_ x0 = 0)) (h : fX12_tellOne_32 x0 v = some out) : G_ E p l e (rm_ 6 127) s m args below meth c 1 sz (Q_ E below args s sz sz 9 out.1 out.2) 32 [(0, (2, x0))] [] v sz := by
  rw [fX12_tellOne_32] at h
  refine g_aload_n C (f := 0) dX12_tellOne_32 0 rfl ?_
  refine g_getf C (k := 13) (kd := 0) okX12 (by decide) kf_RX12_245 dX12_tellOne_33 (rg_ hC T0.1) T0.2.1 rfl ?_
  refine g_if_le C 40 dX12_tellOne_36 rfl (fun c5 => ?_) (fun c5 => ?_)
  · replace h := if_t h c5
    refine g_aload_n C (f := 0) dX12_tellOne_40 0 rfl ?_
    refine g_aload_n C (f := 0) dX12_tellOne_41 0 rfl ?_
    have F6 := fX12_22 hC T0.1 T0.2.1
    refine g_getR C (k := 22) (o := 9) okX12 (by decide) kf_RX12_43 dX12_tellOne_42 hC T0.1 T0.2.1 rfl rfl ?_
    refine g_aload_n C (f := 0) dX12_tellOne_45 0 rfl ?_
    refine g_getf C (k := 19) (kd := 0) okX12 (by decide) kf_RX12_275 dX12_tellOne_46 (rg_ hC T0.1) T0.2.1 rfl ?_
    obtain ⟨c7, h⟩ := ck_e h
    refine g_iald C 2 dX12_tellOne_49 (rg_ hC F6.1) F6.2.1 F6.2.2 c7 ?_
    refine g_bipush C (n := 8) dX12_tellOne_50 (by decide) ?_
    obtain ⟨q8, eq8, h⟩ := bd_e h
    refine g_cV C [(0, v (x0 + 9) (v x0 19)), (0, 8)] (cX12_roomFor_ok l hC T0 eq8) okX12 T0.2.1 (rg_ hC T0.1) km_RX12_297 cv_X12_roomFor rfl (by decide) rfl rfl (Nat.le_of_ble_eq_true rfl) dX12_tellOne_52 ?_
    refine g_aload_n C (f := 0) dX12_tellOne_55 0 rfl ?_
    refine g_getf C (k := 13) (kd := 0) okX12 (by decide) kf_RX12_245 dX12_tellOne_56 (rg_ hC T0.1) T0.2.1 rfl ?_
    refine g_if_ne C 66 dX12_tellOne_59 rfl (fun c9 => ?_) (fun c9 => ?_)
    · replace h := if_f h c9
      cases h
      exact g_vret C dX12_tellOne_66 hr hlk
    · replace h := if_t h c9
      refine g_aload_n C (f := 0) dX12_tellOne_62 0 rfl ?_
      obtain ⟨q10, eq10, h⟩ := bd_e h
      refine g_cV C [] (cX12_tellBlock_ok l hC T0 eq10) okX12 T0.2.1 (rg_ hC T0.1) km_RX12_301 cv_X12_tellBlock rfl (by decide) rfl rfl (Nat.le_of_ble_eq_true rfl) dX12_tellOne_63 ?_
      cases h
      exact g_vret C dX12_tellOne_66 hr hlk
  · replace h := if_f h c5
    cases h
    exact g_vret C dX12_tellOne_39 hr hlk
end
theorem cX12_tellOne_ok (l : Launch) {E : En_} {sz : Int} (hC : Cl_ E.2.2.2.2.2 sz) {x0 : Int} {v : V_} {out : Int × V_} (T0 : (E.2.2.2.2.2 x0 ∧ ty_ x0 = 12 ∧ ln_ x0 = 0)) (h : fX12_tellOne x0 v = some out) : Met l yX12_tellOne [.code yX12_tellOne cX12_tellOne 1 (none : Option FieldType)] (rm_ 6 127) (Pc_ E sz v [(2, x0)]) (Qc_ E sz 9 out.1 out.2) 0 0 (fun q => E.1 < q) := by
  refine met_G0 RX12 (by decide +kernel) rfl (Nat.le_of_ble_eq_true rfl) ?_
  intro p e s m args below meth c C hr hlk
  rw [fX12_tellOne] at h
  refine g_aload_n C (f := 0) dX12_tellOne_0 0 rfl ?_
  refine g_bipush C (n := 20) dX12_tellOne_1 (by decide) ?_
  obtain ⟨q1, eq1, h⟩ := bd_e h
  refine g_cV C [(0, 20)] (cX12_is_ok l hC T0 eq1) okX12 T0.2.1 (rg_ hC T0.1) km_RX12_263 cv_X12_is rfl (by decide) rfl rfl (Nat.le_of_ble_eq_true rfl) dX12_tellOne_3 ?_
  refine g_if_eq C 18 dX12_tellOne_6 rfl (fun c2 => ?_) (fun c2 => ?_)
  · replace h := if_t h c2
    refine g_aload_n C (f := 0) dX12_tellOne_18 0 rfl ?_
    refine g_bipush C (n := 21) dX12_tellOne_19 (by decide) ?_
    obtain ⟨q3, eq3, h⟩ := bd_e h
    refine g_cV C [(0, 21)] (cX12_is_ok l hC T0 eq3) okX12 T0.2.1 (rg_ hC T0.1) km_RX12_263 cv_X12_is rfl (by decide) rfl rfl (Nat.le_of_ble_eq_true rfl) dX12_tellOne_21 ?_
    refine g_if_ne C 32 dX12_tellOne_24 rfl (fun c4 => ?_) (fun c4 => ?_)
    · replace h := if_f h c4
      refine g_sub [0] rfl rfl ?_
      exact tX12_tellOne_32 C hr hlk hC _ _ T0 h
    · replace h := if_t h c4
      refine g_aload_n C (f := 0) dX12_tellOne_27 0 rfl ?_
      refine g_iconst C (n := 1) dX12_tellOne_28 (by decide) ?_
      obtain ⟨q11, eq11, h⟩ := bd_e h
      refine g_cV C [(0, 1)] (cX12_fail_ok l hC T0 eq11) okX12 T0.2.1 (rg_ hC T0.1) km_RX12_260 cv_X12_fail rfl (by decide) rfl rfl (Nat.le_of_ble_eq_true rfl) dX12_tellOne_29 ?_
      refine g_sub [0] rfl rfl ?_
      exact tX12_tellOne_32 C hr hlk hC _ _ T0 h
  · replace h := if_f h c2
    refine g_aload_n C (f := 0) dX12_tellOne_9 0 rfl ?_
    obtain ⟨q12, eq12, h⟩ := bd_e h
    refine g_cV C [] (cX12_goesOn_ok l hC T0 eq12) okX12 T0.2.1 (rg_ hC T0.1) km_RX12_266 cv_X12_goesOn rfl (by decide) rfl rfl (Nat.le_of_ble_eq_true rfl) dX12_tellOne_10 ?_
    refine g_aload_n C (f := 0) dX12_tellOne_13 0 rfl ?_
    obtain ⟨q13, eq13, h⟩ := bd_e h
    refine g_cV C [] (cX12_tellUnits_ok l hC T0 eq13) okX12 T0.2.1 (rg_ hC T0.1) km_RX12_294 cv_X12_tellUnits rfl (by decide) rfl rfl (Nat.le_of_ble_eq_true rfl) dX12_tellOne_14 ?_
    cases h
    exact g_vret C dX12_tellOne_17 hr hlk
theorem dX12_read_0 : decode cX12_read 0 = .ok (.aload_n 0, 1) := by decide +kernel
theorem dX12_read_1 : decode cX12_read 1 = .ok (.aload_n 0, 1) := by decide +kernel
theorem dX12_read_2 : decode cX12_read 2 = .ok (.getfield 208, 3) := by decide +kernel
theorem dX12_read_5 : decode cX12_read 5 = .ok (.putfield 214, 3) := by decide +kernel
theorem dX12_read_8 : decode cX12_read 8 = .ok (.iconst 0, 1) := by decide +kernel
theorem dX12_read_9 : decode cX12_read 9 = .ok (.istore_n 1, 1) := by decide +kernel
theorem dX12_read_10 : decode cX12_read 10 = .ok (.iload_n 1, 1) := by decide +kernel
theorem dX12_read_11 : decode cX12_read 11 = .ok (.aload_n 0, 1) := by decide +kernel
theorem dX12_read_12 : decode cX12_read 12 = .ok (.getfield 214, 3) := by decide +kernel
theorem dX12_read_15 : decode cX12_read 15 = .ok (.if_icmp .ge 21, 3) := by decide +kernel
theorem dX12_read_18 : decode cX12_read 18 = .ok (.aload_n 0, 1) := by decide +kernel
theorem dX12_read_19 : decode cX12_read 19 = .ok (.getfield 17, 3) := by decide +kernel
theorem dX12_read_22 : decode cX12_read 22 = .ok (.iload_n 1, 1) := by decide +kernel
theorem dX12_read_23 : decode cX12_read 23 = .ok (.aload_n 0, 1) := by decide +kernel
theorem dX12_read_24 : decode cX12_read 24 = .ok (.getfield 13, 3) := by decide +kernel
theorem dX12_read_27 : decode cX12_read 27 = .ok (.iload_n 1, 1) := by decide +kernel
theorem dX12_read_28 : decode cX12_read 28 = .ok (.baload, 1) := by decide +kernel
theorem dX12_read_29 : decode cX12_read 29 = .ok (.bastore, 1) := by decide +kernel
theorem dX12_read_30 : decode cX12_read 30 = .ok (.iinc 1 1, 3) := by decide +kernel
theorem dX12_read_33 : decode cX12_read 33 = .ok (.goto (-23), 3) := by decide +kernel
theorem dX12_read_36 : decode cX12_read 36 = .ok (.aload_n 0, 1) := by decide +kernel
theorem dX12_read_37 : decode cX12_read 37 = .ok (.iconst 0, 1) := by decide +kernel
theorem dX12_read_38 : decode cX12_read 38 = .ok (.putfield 208, 3) := by decide +kernel
theorem dX12_read_41 : decode cX12_read 41 = .ok (.aload_n 0, 1) := by decide +kernel
theorem dX12_read_42 : decode cX12_read 42 = .ok (.invokevirtual 269, 3) := by decide +kernel
theorem dX12_read_45 : decode cX12_read 45 = .ok (.aload_n 0, 1) := by decide +kernel
theorem dX12_read_46 : decode cX12_read 46 = .ok (.iconst 0, 1) := by decide +kernel
theorem dX12_read_47 : decode cX12_read 47 = .ok (.putfield 248, 3) := by decide +kernel
theorem dX12_read_50 : decode cX12_read 50 = .ok (.aload_n 0, 1) := by decide +kernel
theorem dX12_read_51 : decode cX12_read 51 = .ok (.iconst 0, 1) := by decide +kernel
theorem dX12_read_52 : decode cX12_read 52 = .ok (.putfield 245, 3) := by decide +kernel
theorem dX12_read_55 : decode cX12_read 55 = .ok (.aload_n 0, 1) := by decide +kernel
theorem dX12_read_56 : decode cX12_read 56 = .ok (.iconst 0, 1) := by decide +kernel
theorem dX12_read_57 : decode cX12_read 57 = .ok (.putfield 254, 3) := by decide +kernel
theorem dX12_read_60 : decode cX12_read 60 = .ok (.aload_n 0, 1) := by decide +kernel
theorem dX12_read_61 : decode cX12_read 61 = .ok (.iconst 1, 1) := by decide +kernel
theorem dX12_read_62 : decode cX12_read 62 = .ok (.aload_n 0, 1) := by decide +kernel
theorem dX12_read_63 : decode cX12_read 63 = .ok (.getfield 272, 3) := by decide +kernel
theorem dX12_read_66 : decode cX12_read 66 = .ok (.isub, 1) := by decide +kernel
theorem dX12_read_67 : decode cX12_read 67 = .ok (.putfield 275, 3) := by decide +kernel
theorem dX12_read_70 : decode cX12_read 70 = .ok (.aload_n 0, 1) := by decide +kernel
theorem dX12_read_71 : decode cX12_read 71 = .ok (.iconst 0, 1) := by decide +kernel
theorem dX12_read_72 : decode cX12_read 72 = .ok (.putfield 278, 3) := by decide +kernel
theorem dX12_read_75 : decode cX12_read 75 = .ok (.aload_n 0, 1) := by decide +kernel
theorem dX12_read_76 : decode cX12_read 76 = .ok (.aload_n 0, 1) := by decide +kernel
theorem dX12_read_77 : decode cX12_read 77 = .ok (.getfield 275, 3) := by decide +kernel
theorem dX12_read_80 : decode cX12_read 80 = .ok (.invokevirtual 194, 3) := by decide +kernel
theorem dX12_read_83 : decode cX12_read 83 = .ok (.aload_n 0, 1) := by decide +kernel
theorem dX12_read_84 : decode cX12_read 84 = .ok (.getfield 245, 3) := by decide +kernel
theorem dX12_read_87 : decode cX12_read 87 = .ok (.ifCond .ne 18, 3) := by decide +kernel
theorem dX12_read_90 : decode cX12_read 90 = .ok (.aload_n 0, 1) := by decide +kernel
theorem dX12_read_91 : decode cX12_read 91 = .ok (.iconst 0, 1) := by decide +kernel
theorem dX12_read_92 : decode cX12_read 92 = .ok (.invokevirtual 263, 3) := by decide +kernel
theorem dX12_read_95 : decode cX12_read 95 = .ok (.ifCond .ne 10, 3) := by decide +kernel
theorem dX12_read_98 : decode cX12_read 98 = .ok (.aload_n 0, 1) := by decide +kernel
theorem dX12_read_99 : decode cX12_read 99 = .ok (.invokevirtual 281, 3) := by decide +kernel
theorem dX12_read_102 : decode cX12_read 102 = .ok (.goto (-19), 3) := by decide +kernel
theorem dX12_read_105 : decode cX12_read 105 = .ok (.bipush 8, 2) := by decide +kernel
theorem dX12_read_107 : decode cX12_read 107 = .ok (.aload_n 0, 1) := by decide +kernel
theorem dX12_read_108 : decode cX12_read 108 = .ok (.getfield 275, 3) := by decide +kernel
theorem dX12_read_111 : decode cX12_read 111 = .ok (.imul, 1) := by decide +kernel
theorem dX12_read_112 : decode cX12_read 112 = .ok (.istore_n 1, 1) := by decide +kernel
theorem dX12_read_113 : decode cX12_read 113 = .ok (.iload_n 1, 1) := by decide +kernel
theorem dX12_read_114 : decode cX12_read 114 = .ok (.bipush 8, 2) := by decide +kernel
theorem dX12_read_116 : decode cX12_read 116 = .ok (.aload_n 0, 1) := by decide +kernel
theorem dX12_read_117 : decode cX12_read 117 = .ok (.getfield 275, 3) := by decide +kernel
theorem dX12_read_120 : decode cX12_read 120 = .ok (.imul, 1) := by decide +kernel
theorem dX12_read_121 : decode cX12_read 121 = .ok (.aload_n 0, 1) := by decide +kernel
theorem dX12_read_122 : decode cX12_read 122 = .ok (.getfield 43, 3) := by decide +kernel
theorem dX12_read_125 : decode cX12_read 125 = .ok (.aload_n 0, 1) := by decide +kernel
theorem dX12_read_126 : decode cX12_read 126 = .ok (.getfield 275, 3) := by decide +kernel
theorem dX12_read_129 : decode cX12_read 129 = .ok (.iaload, 1) := by decide +kernel
theorem dX12_read_130 : decode cX12_read 130 = .ok (.iadd, 1) := by decide +kernel
theorem dX12_read_131 : decode cX12_read 131 = .ok (.if_icmp .ge 68, 3) := by decide +kernel
theorem dX12_read_134 : decode cX12_read 134 = .ok (.aload_n 0, 1) := by decide +kernel
theorem dX12_read_135 : decode cX12_read 135 = .ok (.getfield 245, 3) := by decide +kernel
theorem dX12_read_138 : decode cX12_read 138 = .ok (.ifCond .ne 61, 3) := by decide +kernel
theorem dX12_read_141 : decode cX12_read 141 = .ok (.aload_n 0, 1) := by decide +kernel
theorem dX12_read_142 : decode cX12_read 142 = .ok (.getfield 70, 3) := by decide +kernel
theorem dX12_read_145 : decode cX12_read 145 = .ok (.iload_n 1, 1) := by decide +kernel
theorem dX12_read_146 : decode cX12_read 146 = .ok (.iaload, 1) := by decide +kernel
theorem dX12_read_147 : decode cX12_read 147 = .ok (.iconst 2, 1) := by decide +kernel
theorem dX12_read_148 : decode cX12_read 148 = .ok (.if_icmp .ge 45, 3) := by decide +kernel
theorem dX12_read_151 : decode cX12_read 151 = .ok (.iconst 0, 1) := by decide +kernel
theorem dX12_read_152 : decode cX12_read 152 = .ok (.istore_n 2, 1) := by decide +kernel
theorem dX12_read_153 : decode cX12_read 153 = .ok (.iload_n 2, 1) := by decide +kernel
theorem dX12_read_154 : decode cX12_read 154 = .ok (.aload_n 0, 1) := by decide +kernel
theorem dX12_read_155 : decode cX12_read 155 = .ok (.getfield 70, 3) := by decide +kernel
theorem dX12_read_158 : decode cX12_read 158 = .ok (.iload_n 1, 1) := by decide +kernel
theorem dX12_read_159 : decode cX12_read 159 = .ok (.iaload, 1) := by decide +kernel
theorem dX12_read_160 : decode cX12_read 160 = .ok (.if_icmp .gt 33, 3) := by decide +kernel
theorem dX12_read_163 : decode cX12_read 163 = .ok (.aload_n 0, 1) := by decide +kernel
theorem dX12_read_164 : decode cX12_read 164 = .ok (.getfield 79, 3) := by decide +kernel
theorem dX12_read_167 : decode cX12_read 167 = .ok (.iconst 2, 1) := by decide +kernel
theorem dX12_read_168 : decode cX12_read 168 = .ok (.iload_n 1, 1) := by decide +kernel
theorem dX12_read_169 : decode cX12_read 169 = .ok (.imul, 1) := by decide +kernel
theorem dX12_read_170 : decode cX12_read 170 = .ok (.iload_n 2, 1) := by decide +kernel
theorem dX12_read_171 : decode cX12_read 171 = .ok (.iadd, 1) := by decide +kernel
theorem dX12_read_172 : decode cX12_read 172 = .ok (.aload_n 0, 1) := by decide +kernel
theorem dX12_read_173 : decode cX12_read 173 = .ok (.aload_n 0, 1) := by decide +kernel
theorem dX12_read_174 : decode cX12_read 174 = .ok (.getfield 82, 3) := by decide +kernel
theorem dX12_read_177 : decode cX12_read 177 = .ok (.iconst 2, 1) := by decide +kernel
theorem dX12_read_178 : decode cX12_read 178 = .ok (.iload_n 1, 1) := by decide +kernel
theorem dX12_read_179 : decode cX12_read 179 = .ok (.imul, 1) := by decide +kernel
theorem dX12_read_180 : decode cX12_read 180 = .ok (.iload_n 2, 1) := by decide +kernel
theorem dX12_read_181 : decode cX12_read 181 = .ok (.iadd, 1) := by decide +kernel
theorem dX12_read_182 : decode cX12_read 182 = .ok (.iaload, 1) := by decide +kernel
theorem dX12_read_183 : decode cX12_read 183 = .ok (.invokevirtual 284, 3) := by decide +kernel
theorem dX12_read_186 : decode cX12_read 186 = .ok (.iastore, 1) := by decide +kernel
theorem dX12_read_187 : decode cX12_read 187 = .ok (.iinc 2 1, 3) := by decide +kernel
theorem dX12_read_190 : decode cX12_read 190 = .ok (.goto (-37), 3) := by decide +kernel
theorem dX12_read_193 : decode cX12_read 193 = .ok (.iinc 1 1, 3) := by decide +kernel
theorem dX12_read_196 : decode cX12_read 196 = .ok (.goto (-83), 3) := by decide +kernel
theorem dX12_read_199 : decode cX12_read 199 = .ok (.aload_n 0, 1) := by decide +kernel
theorem dX12_read_200 : decode cX12_read 200 = .ok (.aload_n 0, 1) := by decide +kernel
theorem dX12_read_201 : decode cX12_read 201 = .ok (.getfield 245, 3) := by decide +kernel
theorem dX12_read_204 : decode cX12_read 204 = .ok (.ifCond .le 10, 3) := by decide +kernel
theorem dX12_read_207 : decode cX12_read 207 = .ok (.aload_n 0, 1) := by decide +kernel
theorem dX12_read_208 : decode cX12_read 208 = .ok (.getfield 251, 3) := by decide +kernel
theorem dX12_read_211 : decode cX12_read 211 = .ok (.goto 18, 3) := by decide +kernel
theorem dX12_read_214 : decode cX12_read 214 = .ok (.aload_n 0, 1) := by decide +kernel
theorem dX12_read_215 : decode cX12_read 215 = .ok (.getfield 254, 3) := by decide +kernel
theorem dX12_read_218 : decode cX12_read 218 = .ok (.ifCond .le 10, 3) := by decide +kernel
theorem dX12_read_221 : decode cX12_read 221 = .ok (.aload_n 0, 1) := by decide +kernel
theorem dX12_read_222 : decode cX12_read 222 = .ok (.getfield 257, 3) := by decide +kernel
theorem dX12_read_225 : decode cX12_read 225 = .ok (.goto 4, 3) := by decide +kernel
theorem dX12_read_228 : decode cX12_read 228 = .ok (.iconst (-1), 1) := by decide +kernel
theorem dX12_read_229 : decode cX12_read 229 = .ok (.putfield 37, 3) := by decide +kernel
theorem dX12_read_232 : decode cX12_read 232 = .ok (.aload_n 0, 1) := by decide +kernel
theorem dX12_read_233 : decode cX12_read 233 = .ok (.getfield 245, 3) := by decide +kernel
theorem dX12_read_236 : decode cX12_read 236 = .ok (.ifCond .le 8, 3) := by decide +kernel
theorem dX12_read_239 : decode cX12_read 239 = .ok (.aload_n 0, 1) := by decide +kernel
theorem dX12_read_240 : decode cX12_read 240 = .ok (.getfield 245, 3) := by decide +kernel
theorem dX12_read_243 : decode cX12_read 243 = .ok (.ireturn, 1) := by decide +kernel
theorem dX12_read_244 : decode cX12_read 244 = .ok (.aload_n 0, 1) := by decide +kernel
theorem dX12_read_245 : decode cX12_read 245 = .ok (.getfield 254, 3) := by decide +kernel
theorem dX12_read_248 : decode cX12_read 248 = .ok (.ifCond .le 8, 3) := by decide +kernel
theorem dX12_read_251 : decode cX12_read 251 = .ok (.aload_n 0, 1) := by decide +kernel
theorem dX12_read_252 : decode cX12_read 252 = .ok (.getfield 254, 3) := by decide +kernel
theorem dX12_read_255 : decode cX12_read 255 = .ok (.ireturn, 1) := by decide +kernel
theorem dX12_read_256 : decode cX12_read 256 = .ok (.aload_n 0, 1) := by decide +kernel
theorem dX12_read_257 : decode cX12_read 257 = .ok (.aload_n 0, 1) := by decide +kernel
theorem dX12_read_258 : decode cX12_read 258 = .ok (.getfield 275, 3) := by decide +kernel
theorem dX12_read_261 : decode cX12_read 261 = .ok (.putfield 272, 3) := by decide +kernel
theorem dX12_read_264 : decode cX12_read 264 = .ok (.aload_n 0, 1) := by decide +kernel
theorem dX12_read_265 : decode cX12_read 265 = .ok (.invokevirtual 202, 3) := by decide +kernel
theorem dX12_read_268 : decode cX12_read 268 = .ok (.aload_n 0, 1) := by decide +kernel
theorem dX12_read_269 : decode cX12_read 269 = .ok (.invokevirtual 205, 3) := by decide +kernel
theorem dX12_read_272 : decode cX12_read 272 = .ok (.aload_n 0, 1) := by decide +kernel
theorem dX12_read_273 : decode cX12_read 273 = .ok (.iconst 0, 1) := by decide +kernel
theorem dX12_read_274 : decode cX12_read 274 = .ok (.putfield 287, 3) := by decide +kernel
theorem dX12_read_277 : decode cX12_read 277 = .ok (.aload_n 0, 1) := by decide +kernel
theorem dX12_read_278 : decode cX12_read 278 = .ok (.iconst 0, 1) := by decide +kernel
theorem dX12_read_279 : decode cX12_read 279 = .ok (.putfield 291, 3) := by decide +kernel
theorem dX12_read_282 : decode cX12_read 282 = .ok (.iconst 0, 1) := by decide +kernel
theorem dX12_read_283 : decode cX12_read 283 = .ok (.istore_n 1, 1) := by decide +kernel
theorem dX12_read_284 : decode cX12_read 284 = .ok (.iload_n 1, 1) := by decide +kernel
theorem dX12_read_285 : decode cX12_read 285 = .ok (.iconst 3, 1) := by decide +kernel
theorem dX12_read_286 : decode cX12_read 286 = .ok (.if_icmp .ge 16, 3) := by decide +kernel
theorem dX12_read_289 : decode cX12_read 289 = .ok (.aload_n 0, 1) := by decide +kernel
theorem dX12_read_290 : decode cX12_read 290 = .ok (.getfield 188, 3) := by decide +kernel
theorem dX12_read_293 : decode cX12_read 293 = .ok (.iload_n 1, 1) := by decide +kernel
theorem dX12_read_294 : decode cX12_read 294 = .ok (.iconst 0, 1) := by decide +kernel
theorem dX12_read_295 : decode cX12_read 295 = .ok (.bastore, 1) := by decide +kernel
theorem dX12_read_296 : decode cX12_read 296 = .ok (.iinc 1 1, 3) := by decide +kernel
theorem dX12_read_299 : decode cX12_read 299 = .ok (.goto (-15), 3) := by decide +kernel
theorem dX12_read_302 : decode cX12_read 302 = .ok (.iconst 0, 1) := by decide +kernel
theorem dX12_read_303 : decode cX12_read 303 = .ok (.ireturn, 1) := by decide +kernel
def fX12_read_284 : Nat → Int → Int → V_ → Option (Int × V_)
  | 0, _, _, _ => none
  | n + 1, x0, x1, v =>
    if 3 ≤ x1 then (
      some (0, v))
    else (
      ck_ (0 ≤ x1 ∧ x1 < 3) (
      lt_ (up_ v (x0 + 57) x1 0) fun v29 =>
      lt_ (wr_ (x1 + 1)) fun y30 =>
      (fX12_read_284 n) x0 y30 v29))
def fX12_read_229 (x0 s0 s1 : Int) (v : V_) : Option (Int × V_) :=
  lt_ (up_ v s0 17 s1) fun v18 =>
  if (v18 x0 13) ≤ 0 then (
    if (v18 x0 15) ≤ 0 then (
      lt_ (up_ v18 x0 18 (v18 x0 19)) fun v21 =>
      bd_ (fX12_begins x0 v21) fun q22 =>
      bd_ (fX12_keepsRow x0 q22.2) fun q23 =>
      lt_ (up_ q23.2 x0 69 0) fun v24 =>
      lt_ (up_ v24 x0 77 0) fun v25 =>
      fX12_read_284 fu_ x0 0 v25)
    else (
      some (v18 x0 15, v18)))
  else (
    some (v18 x0 13, v18))
def fX12_read_199 (x0 : Int) (v : V_) : Option (Int × V_) :=
  if (v x0 13) ≤ 0 then (
    if (v x0 15) ≤ 0 then (
      fX12_read_229 x0 x0 (-1) v)
    else (
      fX12_read_229 x0 x0 (v x0 16) v))
  else (
    fX12_read_229 x0 x0 (v x0 14) v)
def fX12_read_153 (k113 : Int → Int → V_ → Option (Int × V_)) : Nat → Int → Int → Int → V_ → Option (Int × V_)
  | 0, _, _, _, _ => none
  | n + 1, x0, x1, x2, v =>
    ck_ (0 ≤ x1 ∧ x1 < 16) (
    if (v (x0 + 18) x1) < x2 then (
      lt_ (wr_ (x1 + 1)) fun y39 =>
      k113 x0 y39 v)
    else (
      ck_ (0 ≤ wr_ ((wr_ (2 * x1)) + x2) ∧ wr_ ((wr_ (2 * x1)) + x2) < 32) (
      bd_ (fX12_known x0 (v (x0 + 22) (wr_ ((wr_ (2 * x1)) + x2))) v) fun q43 =>
      ck_ (0 ≤ wr_ ((wr_ (2 * x1)) + x2) ∧ wr_ ((wr_ (2 * x1)) + x2) < 32) (
      lt_ (up_ q43.2 (x0 + 21) (wr_ ((wr_ (2 * x1)) + x2)) q43.1) fun v45 =>
      lt_ (wr_ (x2 + 1)) fun y46 =>
      (fX12_read_153 k113 n) x0 x1 y46 v45))))
def fX12_read_113 : Nat → Int → Int → V_ → Option (Int × V_)
  | 0, _, _, _ => none
  | n + 1, x0, x1, v =>
    ck_ (0 ≤ v x0 19 ∧ v x0 19 < 2) (
    if (wr_ ((wr_ (8 * (v x0 19))) + (v (x0 + 9) (v x0 19)))) ≤ x1 then (
      fX12_read_199 x0 v)
    else (
      if (v x0 13) = 0 then (
        ck_ (0 ≤ x1 ∧ x1 < 16) (
        if 2 ≤ (v (x0 + 18) x1) then (
          lt_ (wr_ (x1 + 1)) fun y35 =>
          (fX12_read_113 n) x0 y35 v)
        else (
          fX12_read_153 (fX12_read_113 n) fu_ x0 x1 0 v)))
      else (
        fX12_read_199 x0 v)))
def fX12_read_105 (x0 : Int) (v : V_) : Option (Int × V_) :=
  lt_ (wr_ (8 * (v x0 19))) fun y12 =>
  fX12_read_113 fu_ x0 y12 v
def fX12_read_83 : Nat → Int → V_ → Option (Int × V_)
  | 0, _, _ => none
  | n + 1, x0, v =>
    if (v x0 13) = 0 then (
      bd_ (fX12_is x0 0 v) fun q47 =>
      if q47.1 = 0 then (
        bd_ (fX12_tellOne x0 q47.2) fun q49 =>
        (fX12_read_83 n) x0 q49.2)
      else (
        fX12_read_105 x0 q47.2))
    else (
      fX12_read_105 x0 v)
def fX12_read_10 : Nat → Int → Int → V_ → Option (Int × V_)
  | 0, _, _, _ => none
  | n + 1, x0, x1, v =>
    if (v x0 4) ≤ x1 then (
      lt_ (up_ v x0 2 0) fun v3 =>
      bd_ (fX12_cut x0 v3) fun q4 =>
      lt_ (up_ q4.2 x0 11 0) fun v5 =>
      lt_ (up_ v5 x0 13 0) fun v6 =>
      lt_ (up_ v6 x0 15 0) fun v7 =>
      lt_ (up_ v7 x0 19 (wr_ (1 - (v7 x0 18)))) fun v8 =>
      lt_ (up_ v8 x0 20 0) fun v9 =>
      bd_ (fX12_plain x0 (v9 x0 19) v9) fun q10 =>
      fX12_read_83 fu_ x0 q10.2)
    else (
      ck_ (0 ≤ x1 ∧ x1 < 2000) (
      ck_ (0 ≤ x1 ∧ x1 < 2000) (
      lt_ (up_ v (x0 + 2) x1 (w8_ (v (x0 + 1) x1))) fun v54 =>
      lt_ (wr_ (x1 + 1)) fun y55 =>
      (fX12_read_10 n) x0 y55 v54)))
def fX12_read (x0 : Int) (v : V_) : Option (Int × V_) :=
  lt_ (up_ v x0 4 (v x0 2)) fun v1 =>
  fX12_read_10 fu_ x0 0 v1
section
variable {E : En_} {p : Program} {l : Launch} {e : Env} {s : State} {m : MethodId} {args : Array Value} {below : List Frame} {meth : Method} {c : Code} {sz : Int}
theorem tX12_read_284 (C : MC_ E p s m c cX12_read 3 RX12) (hr : meth.sig.returnType = (some FieldType.int)) (hlk : meth.locks = false) (hC : Cl_ E.2.2.2.2.2 sz) {out : Int × V_} : ∀ (n : Nat) (x0 x1 : Int) (v : V_), (E.2.2.2.2.2 x0 ∧ ty_ x0 = 12 ∧ ln_ x0 = 0) → fX12_read_284 n x0 x1 v = some out → G_ E p l e (rm_ 7 147) s m args below meth c 3 sz (Q_ E below args s sz sz 0 out.1 out.2) 284 [(0, (2, x0)), (1, (0, x1))] [] v sz := by
  intro n
  induction n with
  | zero =>
    intro x0 x1 v T0 h
    cases h
  | succ n H_284 =>
    intro x0 x1 v T0 h
    rw [fX12_read_284] at h
    refine g_iload_n C (f := 1) dX12_read_284 1 rfl ?_
    refine g_iconst C (n := 3) dX12_read_285 (by decide) ?_
    refine g_icmp_ge C 302 dX12_read_286 rfl (fun c26 => ?_) (fun c26 => ?_)
    · replace h := if_t h c26
      refine g_iconst C (n := 0) dX12_read_302 (by decide) ?_
      cases h
      exact g_iret C dX12_read_303 hr hlk
    · replace h := if_f h c26
      refine g_aload_n C (f := 0) dX12_read_289 0 rfl ?_
      have F27 := fX12_80 hC T0.1 T0.2.1
      refine g_getR C (k := 80) (o := 57) okX12 (by decide) kf_RX12_188 dX12_read_290 hC T0.1 T0.2.1 rfl rfl ?_
      refine g_iload_n C (f := 1) dX12_read_293 1 rfl ?_
      refine g_iconst C (n := 0) dX12_read_294 (by decide) ?_
      obtain ⟨c28, h⟩ := ck_e h
      obtain ⟨v29, ev29, h⟩ := lt_e h
      refine g_zast C 3 dX12_read_295 (rg_ hC F27.1) F27.2.1 F27.2.2 c28 (Or.inl rfl) v29 ev29 ?_
      obtain ⟨y30, ey30, h⟩ := lt_e h
      refine g_iincx C (ls' := [(1, (0, y30)), (0, (2, x0))]) ey30 dX12_read_296 1 rfl (by decide) (by decide) rfl ?_
      refine g_goto C 284 dX12_read_299 rfl ?_
      refine g_sub [1, 0] rfl rfl ?_
      exact H_284 _ _ _ T0 h
theorem tX12_read_229 (C : MC_ E p s m c cX12_read 3 RX12) (hr : meth.sig.returnType = (some FieldType.int)) (hlk : meth.locks = false) (hC : Cl_ E.2.2.2.2.2 sz) {out : Int × V_} (x0 s0 s1 : Int) (v : V_) (T0 : (E.2.2.2.2.2 x0 ∧ ty_ x0 = 12 ∧ ln_ x0 = 0)) (S0 : (E.2.2.2.2.2 s0 ∧ ty_ s0 = 12 ∧ ln_ s0 = 0)) (h : fX12_read_229 x0 s0 s1 v = some out) : G_ E p l e (rm_ 7 147) s m args below meth c 3 sz (Q_ E below args s sz sz 0 out.1 out.2) 229 [(0, (2, x0))] [(0, s1), (2, s0)] v sz := by
  rw [fX12_read_229] at h
  obtain ⟨v18, ev18, h⟩ := lt_e h
  refine g_putf C (k := 17) (kd := 0) okX12 (by decide) kf_RX12_37 dX12_read_229 (rg_ hC S0.1) S0.2.1 rfl rfl nvI (Or.inl rfl) v18 ev18 ?_
  refine g_aload_n C (f := 0) dX12_read_232 0 rfl ?_
  refine g_getf C (k := 13) (kd := 0) okX12 (by decide) kf_RX12_245 dX12_read_233 (rg_ hC T0.1) T0.2.1 rfl ?_
  refine g_if_le C 244 dX12_read_236 rfl (fun c19 => ?_) (fun c19 => ?_)
  · replace h := if_t h c19
    refine g_aload_n C (f := 0) dX12_read_244 0 rfl ?_
    refine g_getf C (k := 15) (kd := 0) okX12 (by decide) kf_RX12_254 dX12_read_245 (rg_ hC T0.1) T0.2.1 rfl ?_
    refine g_if_le C 256 dX12_read_248 rfl (fun c20 => ?_) (fun c20 => ?_)
    · replace h := if_t h c20
      refine g_aload_n C (f := 0) dX12_read_256 0 rfl ?_
      refine g_aload_n C (f := 0) dX12_read_257 0 rfl ?_
      refine g_getf C (k := 19) (kd := 0) okX12 (by decide) kf_RX12_275 dX12_read_258 (rg_ hC T0.1) T0.2.1 rfl ?_
      obtain ⟨v21, ev21, h⟩ := lt_e h
      refine g_putf C (k := 18) (kd := 0) okX12 (by decide) kf_RX12_272 dX12_read_261 (rg_ hC T0.1) T0.2.1 rfl rfl nvI (Or.inl rfl) v21 ev21 ?_
      refine g_aload_n C (f := 0) dX12_read_264 0 rfl ?_
      obtain ⟨q22, eq22, h⟩ := bd_e h
      refine g_cV C [] (cX12_begins_ok l hC T0 eq22) okX12 T0.2.1 (rg_ hC T0.1) km_RX12_202 cv_X12_begins rfl (by decide) rfl rfl (Nat.le_of_ble_eq_true rfl) dX12_read_265 ?_
      refine g_aload_n C (f := 0) dX12_read_268 0 rfl ?_
      obtain ⟨q23, eq23, h⟩ := bd_e h
      refine g_cV C [] (cX12_keepsRow_ok l hC T0 eq23) okX12 T0.2.1 (rg_ hC T0.1) km_RX12_205 cv_X12_keepsRow rfl (by decide) rfl rfl (Nat.le_of_ble_eq_true rfl) dX12_read_269 ?_
      refine g_aload_n C (f := 0) dX12_read_272 0 rfl ?_
      refine g_iconst C (n := 0) dX12_read_273 (by decide) ?_
      obtain ⟨v24, ev24, h⟩ := lt_e h
      refine g_putf C (k := 69) (kd := 0) okX12 (by decide) kf_RX12_287 dX12_read_274 (rg_ hC T0.1) T0.2.1 rfl rfl (nvZ (Or.inl rfl)) (Or.inl rfl) v24 ev24 ?_
      refine g_aload_n C (f := 0) dX12_read_277 0 rfl ?_
      refine g_iconst C (n := 0) dX12_read_278 (by decide) ?_
      obtain ⟨v25, ev25, h⟩ := lt_e h
      refine g_putf C (k := 77) (kd := 0) okX12 (by decide) kf_RX12_291 dX12_read_279 (rg_ hC T0.1) T0.2.1 rfl rfl nvI (Or.inl rfl) v25 ev25 ?_
      refine g_iconst C (n := 0) dX12_read_282 (by decide) ?_
      refine g_istore_n C (f := 1) (ls' := [(1, (0, 0)), (0, (2, x0))]) dX12_read_283 (by decide) rfl ?_
      refine g_sub [1, 0] rfl rfl ?_
      exact tX12_read_284 C hr hlk hC _ _ _ _ T0 h
    · replace h := if_f h c20
      refine g_aload_n C (f := 0) dX12_read_251 0 rfl ?_
      refine g_getf C (k := 15) (kd := 0) okX12 (by decide) kf_RX12_254 dX12_read_252 (rg_ hC T0.1) T0.2.1 rfl ?_
      cases h
      exact g_iret C dX12_read_255 hr hlk
  · replace h := if_f h c19
    refine g_aload_n C (f := 0) dX12_read_239 0 rfl ?_
    refine g_getf C (k := 13) (kd := 0) okX12 (by decide) kf_RX12_245 dX12_read_240 (rg_ hC T0.1) T0.2.1 rfl ?_
    cases h
    exact g_iret C dX12_read_243 hr hlk
theorem tX12_read_199 (C : MC_ E p s m c cX12_read 3 RX12) (hr : meth.sig.returnType = (some FieldType.int)) (hlk : meth.locks = false) (hC : Cl_ E.2.2.2.2.2 sz) {out : Int × V_} (x0 : Int) (v : V_) (T0 : (E.2.2.2.2.2 x0 ∧ ty_ x0 = 12 ∧ ln_ x0 = 0)) (h : fX12_read_199 x0 v = some out) : G_ E p l e (rm_ 7 147) s m args below meth c 3 sz (Q_ E below args s sz sz 0 out.1 out.2) 199 [(0, (2, x0))] [] v sz := by
  rw [fX12_read_199] at h
  refine g_aload_n C (f := 0) dX12_read_199 0 rfl ?_
  refine g_aload_n C (f := 0) dX12_read_200 0 rfl ?_
  refine g_getf C (k := 13) (kd := 0) okX12 (by decide) kf_RX12_245 dX12_read_201 (rg_ hC T0.1) T0.2.1 rfl ?_
  refine g_if_le C 214 dX12_read_204 rfl (fun c16 => ?_) (fun c16 => ?_)
  · replace h := if_t h c16
    refine g_aload_n C (f := 0) dX12_read_214 0 rfl ?_
    refine g_getf C (k := 15) (kd := 0) okX12 (by decide) kf_RX12_254 dX12_read_215 (rg_ hC T0.1) T0.2.1 rfl ?_
    refine g_if_le C 228 dX12_read_218 rfl (fun c17 => ?_) (fun c17 => ?_)
    · replace h := if_t h c17
      refine g_iconst C (n := (-1)) dX12_read_228 (by decide) ?_
      refine g_sub [0] rfl rfl ?_
      exact tX12_read_229 C hr hlk hC _ _ _ _ T0 T0 h
    · replace h := if_f h c17
      refine g_aload_n C (f := 0) dX12_read_221 0 rfl ?_
      refine g_getf C (k := 16) (kd := 0) okX12 (by decide) kf_RX12_257 dX12_read_222 (rg_ hC T0.1) T0.2.1 rfl ?_
      refine g_goto C 229 dX12_read_225 rfl ?_
      refine g_sub [0] rfl rfl ?_
      exact tX12_read_229 C hr hlk hC _ _ _ _ T0 T0 h
  · replace h := if_f h c16
    refine g_aload_n C (f := 0) dX12_read_207 0 rfl ?_
    refine g_getf C (k := 14) (kd := 0) okX12 (by decide) kf_RX12_251 dX12_read_208 (rg_ hC T0.1) T0.2.1 rfl ?_
    refine g_goto C 229 dX12_read_211 rfl ?_
    refine g_sub [0] rfl rfl ?_
    exact tX12_read_229 C hr hlk hC _ _ _ _ T0 T0 h
theorem tX12_read_153 (C : MC_ E p s m c cX12_read 3 RX12) (hr : meth.sig.returnType = (some FieldType.int)) (hlk : meth.locks = false) (hC : Cl_ E.2.2.2.2.2 sz) {out : Int × V_} (k113 : Int → Int → V_ → Option (Int × V_)) (H_113 : ∀ (x0 x1 : Int) (v : V_), (E.2.2.2.2.2 x0 ∧ ty_ x0 = 12 ∧ ln_ x0 = 0) → k113 x0 x1 v = some out → G_ E p l e (rm_ 7 147) s m args below meth c 3 sz (Q_ E below args s sz sz 0 out.1 out.2) 113 [(0, (2, x0)), (1, (0, x1))] [] v sz) : ∀ (n : Nat) (x0 x1 x2 : Int) (v : V_), (E.2.2.2.2.2 x0 ∧ ty_ x0 = 12 ∧ ln_ x0 = 0) → fX12_read_153 k113 n x0 x1 x2 v = some out → G_ E p l e (rm_ 7 147) s m args below meth c 3 sz (Q_ E below args s sz sz 0 out.1 out.2) 153 [(0, (2, x0)), (1, (0, x1)), (2, (0, x2))] [] v sz := by
  intro n
  induction n with
  | zero =>
    intro x0 x1 x2 v T0 h
    cases h
  | succ n H_153 =>
    intro x0 x1 x2 v T0 h
    rw [fX12_read_153] at h
    refine g_iload_n C (f := 2) dX12_read_153 2 rfl ?_
    refine g_aload_n C (f := 0) dX12_read_154 0 rfl ?_
    have F36 := fX12_31 hC T0.1 T0.2.1
    refine g_getR C (k := 31) (o := 18) okX12 (by decide) kf_RX12_70 dX12_read_155 hC T0.1 T0.2.1 rfl rfl ?_
    refine g_iload_n C (f := 1) dX12_read_158 1 rfl ?_
    obtain ⟨c37, h⟩ := ck_e h
    refine g_iald C 16 dX12_read_159 (rg_ hC F36.1) F36.2.1 F36.2.2 c37 ?_
    refine g_icmp_gt C 193 dX12_read_160 rfl (fun c38 => ?_) (fun c38 => ?_)
    · replace h := if_t h c38
      obtain ⟨y39, ey39, h⟩ := lt_e h
      refine g_iincx C (ls' := [(1, (0, y39)), (0, (2, x0)), (2, (0, x2))]) ey39 dX12_read_193 1 rfl (by decide) (by decide) rfl ?_
      refine g_goto C 113 dX12_read_196 rfl ?_
      refine g_sub [1, 0] rfl rfl ?_
      exact H_113 _ _ _ T0 h
    · replace h := if_f h c38
      refine g_aload_n C (f := 0) dX12_read_163 0 rfl ?_
      have F40 := fX12_34 hC T0.1 T0.2.1
      refine g_getR C (k := 34) (o := 21) okX12 (by decide) kf_RX12_79 dX12_read_164 hC T0.1 T0.2.1 rfl rfl ?_
      refine g_iconst C (n := 2) dX12_read_167 (by decide) ?_
      refine g_iload_n C (f := 1) dX12_read_168 1 rfl ?_
      refine g_imul C dX12_read_169 ?_
      refine g_iload_n C (f := 2) dX12_read_170 2 rfl ?_
      refine g_iadd C dX12_read_171 ?_
      refine g_aload_n C (f := 0) dX12_read_172 0 rfl ?_
      refine g_aload_n C (f := 0) dX12_read_173 0 rfl ?_
      have F41 := fX12_35 hC T0.1 T0.2.1
      refine g_getR C (k := 35) (o := 22) okX12 (by decide) kf_RX12_82 dX12_read_174 hC T0.1 T0.2.1 rfl rfl ?_
      refine g_iconst C (n := 2) dX12_read_177 (by decide) ?_
      refine g_iload_n C (f := 1) dX12_read_178 1 rfl ?_
      refine g_imul C dX12_read_179 ?_
      refine g_iload_n C (f := 2) dX12_read_180 2 rfl ?_
      refine g_iadd C dX12_read_181 ?_
      obtain ⟨c42, h⟩ := ck_e h
      refine g_iald C 32 dX12_read_182 (rg_ hC F41.1) F41.2.1 F41.2.2 c42 ?_
      obtain ⟨q43, eq43, h⟩ := bd_e h
      refine g_cV C [(0, v (x0 + 22) (wr_ ((wr_ (2 * x1)) + x2)))] (cX12_known_ok l hC T0 eq43) okX12 T0.2.1 (rg_ hC T0.1) km_RX12_284 cv_X12_known rfl (by decide) rfl rfl (Nat.le_of_ble_eq_true rfl) dX12_read_183 ?_
      obtain ⟨c44, h⟩ := ck_e h
      obtain ⟨v45, ev45, h⟩ := lt_e h
      refine g_iast C 32 dX12_read_186 (rg_ hC F40.1) F40.2.1 F40.2.2 c44 v45 ev45 ?_
      obtain ⟨y46, ey46, h⟩ := lt_e h
      refine g_iincx C (ls' := [(2, (0, y46)), (0, (2, x0)), (1, (0, x1))]) ey46 dX12_read_187 2 rfl (by decide) (by decide) rfl ?_
      refine g_goto C 153 dX12_read_190 rfl ?_
      refine g_sub [1, 2, 0] rfl rfl ?_
      exact H_153 _ _ _ _ T0 h
theorem tX12_read_113 (C : MC_ E p s m c cX12_read 3 RX12) (hr : meth.sig.returnType = (some FieldType.int)) (hlk : meth.locks = false) (hC : Cl_ E.2.2.2.2.2 sz) {out : Int × V_} : ∀ (n : Nat) (x0 x1 : Int) (v : V_), (E.2.2.2.2.2 x0 ∧ ty_ x0 = 12 ∧ ln_ x0 = 0) → fX12_read_113 n x0 x1 v = some out → G_ E p l e (rm_ 7 147) s m args below meth c 3 sz (Q_ E below args s sz sz 0 out.1 out.2) 113 [(0, (2, x0)), (1, (0, x1))] [] v sz := by
  intro n
  induction n with
  | zero =>
    intro x0 x1 v T0 h
    cases h
  | succ n H_113 =>
    intro x0 x1 v T0 h
    rw [fX12_read_113] at h
    refine g_iload_n C (f := 1) dX12_read_113 1 rfl ?_
    refine g_bipush C (n := 8) dX12_read_114 (by decide) ?_
    refine g_aload_n C (f := 0) dX12_read_116 0 rfl ?_
    refine g_getf C (k := 19) (kd := 0) okX12 (by decide) kf_RX12_275 dX12_read_117 (rg_ hC T0.1) T0.2.1 rfl ?_
    refine g_imul C dX12_read_120 ?_
    refine g_aload_n C (f := 0) dX12_read_121 0 rfl ?_
    have F13 := fX12_22 hC T0.1 T0.2.1
    refine g_getR C (k := 22) (o := 9) okX12 (by decide) kf_RX12_43 dX12_read_122 hC T0.1 T0.2.1 rfl rfl ?_
    refine g_aload_n C (f := 0) dX12_read_125 0 rfl ?_
    refine g_getf C (k := 19) (kd := 0) okX12 (by decide) kf_RX12_275 dX12_read_126 (rg_ hC T0.1) T0.2.1 rfl ?_
    obtain ⟨c14, h⟩ := ck_e h
    refine g_iald C 2 dX12_read_129 (rg_ hC F13.1) F13.2.1 F13.2.2 c14 ?_
    refine g_iadd C dX12_read_130 ?_
    refine g_icmp_ge C 199 dX12_read_131 rfl (fun c15 => ?_) (fun c15 => ?_)
    · replace h := if_t h c15
      refine g_sub [0] rfl rfl ?_
      exact tX12_read_199 C hr hlk hC _ _ T0 h
    · replace h := if_f h c15
      refine g_aload_n C (f := 0) dX12_read_134 0 rfl ?_
      refine g_getf C (k := 13) (kd := 0) okX12 (by decide) kf_RX12_245 dX12_read_135 (rg_ hC T0.1) T0.2.1 rfl ?_
      refine g_if_ne C 199 dX12_read_138 rfl (fun c31 => ?_) (fun c31 => ?_)
      · replace h := if_f h c31
        refine g_sub [0] rfl rfl ?_
        exact tX12_read_199 C hr hlk hC _ _ T0 h
      · replace h := if_t h c31
        refine g_aload_n C (f := 0) dX12_read_141 0 rfl ?_
        have F32 := fX12_31 hC T0.1 T0.2.1
        refine g_getR C (k := 31) (o := 18) okX12 (by decide) kf_RX12_70 dX12_read_142 hC T0.1 T0.2.1 rfl rfl ?_
        refine g_iload_n C (f := 1) dX12_read_145 1 rfl ?_
        obtain ⟨c33, h⟩ := ck_e h
        refine g_iald C 16 dX12_read_146 (rg_ hC F32.1) F32.2.1 F32.2.2 c33 ?_
        refine g_iconst C (n := 2) dX12_read_147 (by decide) ?_
        refine g_icmp_ge C 193 dX12_read_148 rfl (fun c34 => ?_) (fun c34 => ?_)
        · replace h := if_t h c34
          obtain ⟨y35, ey35, h⟩ := lt_e h
          refine g_iincx C (ls' := [(1, (0, y35)), (0, (2, x0))]) ey35 dX12_read_193 1 rfl (by decide) (by decide) rfl ?_
          refine g_goto C 113 dX12_read_196 rfl ?_
          refine g_sub [1, 0] rfl rfl ?_
          exact H_113 _ _ _ T0 h
        · replace h := if_f h c34
          refine g_iconst C (n := 0) dX12_read_151 (by decide) ?_
          refine g_istore_n C (f := 2) (ls' := [(2, (0, 0)), (0, (2, x0)), (1, (0, x1))]) dX12_read_152 (by decide) rfl ?_
          refine g_sub [1, 2, 0] rfl rfl ?_
          exact tX12_read_153 C hr hlk hC _ H_113 _ _ _ _ _ T0 h
theorem tX12_read_105 (C : MC_ E p s m c cX12_read 3 RX12) (hr : meth.sig.returnType = (some FieldType.int)) (hlk : meth.locks = false) (hC : Cl_ E.2.2.2.2.2 sz) {out : Int × V_} (x0 : Int) (v : V_) (T0 : (E.2.2.2.2.2 x0 ∧ ty_ x0 = 12 ∧ ln_ x0 = 0)) (h : fX12_read_105 x0 v = some out) : G_ E p l e (rm_ 7 147) s m args below meth c 3 sz (Q_ E below args s sz sz 0 out.1 out.2) 105 [(0, (2, x0))] [] v sz := by
  rw [fX12_read_105] at h
  refine g_bipush C (n := 8) dX12_read_105 (by decide) ?_
  refine g_aload_n C (f := 0) dX12_read_107 0 rfl ?_
  refine g_getf C (k := 19) (kd := 0) okX12 (by decide) kf_RX12_275 dX12_read_108 (rg_ hC T0.1) T0.2.1 rfl ?_
  refine g_imul C dX12_read_111 ?_
  obtain ⟨y12, ey12, h⟩ := lt_e h
  refine g_set C ey12 ?_
  refine g_istore_n C (f := 1) (ls' := [(1, (0, y12)), (0, (2, x0))]) dX12_read_112 (by decide) rfl ?_
  refine g_sub [1, 0] rfl rfl ?_
  exact tX12_read_113 C hr hlk hC _ _ _ _ T0 h
theorem tX12_read_83 (C : MC_ E p s m c cX12_read 3 RX12) (hr : meth.sig.returnType = (some FieldType.int)) (hlk : meth.locks = false) (hC : Cl_ E.2.2.2.2.2 sz) {out : Int × V_} : ∀ (n : Nat) (x0 : Int) (v : V_), (E.2.2.2.2.2 x0 ∧ ty_ x0 = 12 ∧ ln_ x0 = 0) → fX12_read_83 n x0 v = some out → G_ E p l e (rm_ 7 147) s m args below meth c 3 sz (Q_ E below args s sz sz 0 out.1 out.2) 83 [(0, (2, x0))] [] v sz := by
  intro n
  induction n with
  | zero =>
    intro x0 v T0 h
    cases h
  | succ n H_83 =>
    intro x0 v T0 h
    rw [fX12_read_83] at h
    refine g_aload_n C (f := 0) dX12_read_83 0 rfl ?_
    refine g_getf C (k := 13) (kd := 0) okX12 (by decide) kf_RX12_245 dX12_read_84 (rg_ hC T0.1) T0.2.1 rfl ?_
    refine g_if_ne C 105 dX12_read_87 rfl (fun c11 => ?_) (fun c11 => ?_)
    · replace h := if_f h c11
      refine g_sub [0] rfl rfl ?_
      exact tX12_read_105 C hr hlk hC _ _ T0 h
    · replace h := if_t h c11
      refine g_aload_n C (f := 0) dX12_read_90 0 rfl ?_
      refine g_iconst C (n := 0) dX12_read_91 (by decide) ?_
      obtain ⟨q47, eq47, h⟩ := bd_e h
      refine g_cV C [(0, 0)] (cX12_is_ok l hC T0 eq47) okX12 T0.2.1 (rg_ hC T0.1) km_RX12_263 cv_X12_is rfl (by decide) rfl rfl (Nat.le_of_ble_eq_true rfl) dX12_read_92 ?_
      refine g_if_ne C 105 dX12_read_95 rfl (fun c48 => ?_) (fun c48 => ?_)
      · replace h := if_f h c48
        refine g_sub [0] rfl rfl ?_
        exact tX12_read_105 C hr hlk hC _ _ T0 h
      · replace h := if_t h c48
        refine g_aload_n C (f := 0) dX12_read_98 0 rfl ?_
        obtain ⟨q49, eq49, h⟩ := bd_e h
        refine g_cV C [] (cX12_tellOne_ok l hC T0 eq49) okX12 T0.2.1 (rg_ hC T0.1) km_RX12_281 cv_X12_tellOne rfl (by decide) rfl rfl (Nat.le_of_ble_eq_true rfl) dX12_read_99 ?_
        refine g_goto C 83 dX12_read_102 rfl ?_
        refine g_sub [0] rfl rfl ?_
        exact H_83 _ _ T0 h
theorem tX12_read_10 (C : MC_ E p s m c cX12_read 3 RX12) (hr : meth.sig.returnType = (some FieldType.int)) (hlk : meth.locks = false) (hC : Cl_ E.2.2.2.2.2 sz) {out : Int × V_} : ∀ (n : Nat) (x0 x1 : Int) (v : V_), (E.2.2.2.2.2 x0 ∧ ty_ x0 = 12 ∧ ln_ x0 = 0) → fX12_read_10 n x0 x1 v = some out → G_ E p l e (rm_ 7 147) s m args below meth c 3 sz (Q_ E below args s sz sz 0 out.1 out.2) 10 [(0, (2, x0)), (1, (0, x1))] [] v sz := by
  intro n
  induction n with
  | zero =>
    intro x0 x1 v T0 h
    cases h
  | succ n H_10 =>
    intro x0 x1 v T0 h
    rw [fX12_read_10] at h
    refine g_iload_n C (f := 1) dX12_read_10 1 rfl ?_
    refine g_aload_n C (f := 0) dX12_read_11 0 rfl ?_
    refine g_getf C (k := 4) (kd := 0) okX12 (by decide) kf_RX12_214 dX12_read_12 (rg_ hC T0.1) T0.2.1 rfl ?_
    refine g_icmp_ge C 36 dX12_read_15 rfl (fun c2 => ?_) (fun c2 => ?_)
    · replace h := if_t h c2
      refine g_aload_n C (f := 0) dX12_read_36 0 rfl ?_
      refine g_iconst C (n := 0) dX12_read_37 (by decide) ?_
      obtain ⟨v3, ev3, h⟩ := lt_e h
      refine g_putf C (k := 2) (kd := 0) okX12 (by decide) kf_RX12_208 dX12_read_38 (rg_ hC T0.1) T0.2.1 rfl rfl nvI (Or.inl rfl) v3 ev3 ?_
      refine g_aload_n C (f := 0) dX12_read_41 0 rfl ?_
      obtain ⟨q4, eq4, h⟩ := bd_e h
      refine g_cV C [] (cX12_cut_ok l hC T0 eq4) okX12 T0.2.1 (rg_ hC T0.1) km_RX12_269 cv_X12_cut rfl (by decide) rfl rfl (Nat.le_of_ble_eq_true rfl) dX12_read_42 ?_
      refine g_aload_n C (f := 0) dX12_read_45 0 rfl ?_
      refine g_iconst C (n := 0) dX12_read_46 (by decide) ?_
      obtain ⟨v5, ev5, h⟩ := lt_e h
      refine g_putf C (k := 11) (kd := 0) okX12 (by decide) kf_RX12_248 dX12_read_47 (rg_ hC T0.1) T0.2.1 rfl rfl nvI (Or.inl rfl) v5 ev5 ?_
      refine g_aload_n C (f := 0) dX12_read_50 0 rfl ?_
      refine g_iconst C (n := 0) dX12_read_51 (by decide) ?_
      obtain ⟨v6, ev6, h⟩ := lt_e h
      refine g_putf C (k := 13) (kd := 0) okX12 (by decide) kf_RX12_245 dX12_read_52 (rg_ hC T0.1) T0.2.1 rfl rfl nvI (Or.inl rfl) v6 ev6 ?_
      refine g_aload_n C (f := 0) dX12_read_55 0 rfl ?_
      refine g_iconst C (n := 0) dX12_read_56 (by decide) ?_
      obtain ⟨v7, ev7, h⟩ := lt_e h
      refine g_putf C (k := 15) (kd := 0) okX12 (by decide) kf_RX12_254 dX12_read_57 (rg_ hC T0.1) T0.2.1 rfl rfl nvI (Or.inl rfl) v7 ev7 ?_
      refine g_aload_n C (f := 0) dX12_read_60 0 rfl ?_
      refine g_iconst C (n := 1) dX12_read_61 (by decide) ?_
      refine g_aload_n C (f := 0) dX12_read_62 0 rfl ?_
      refine g_getf C (k := 18) (kd := 0) okX12 (by decide) kf_RX12_272 dX12_read_63 (rg_ hC T0.1) T0.2.1 rfl ?_
      refine g_isub C dX12_read_66 ?_
      obtain ⟨v8, ev8, h⟩ := lt_e h
      refine g_putf C (k := 19) (kd := 0) okX12 (by decide) kf_RX12_275 dX12_read_67 (rg_ hC T0.1) T0.2.1 rfl rfl nvI (Or.inl rfl) v8 ev8 ?_
      refine g_aload_n C (f := 0) dX12_read_70 0 rfl ?_
      refine g_iconst C (n := 0) dX12_read_71 (by decide) ?_
      obtain ⟨v9, ev9, h⟩ := lt_e h
      refine g_putf C (k := 20) (kd := 0) okX12 (by decide) kf_RX12_278 dX12_read_72 (rg_ hC T0.1) T0.2.1 rfl rfl nvI (Or.inl rfl) v9 ev9 ?_
      refine g_aload_n C (f := 0) dX12_read_75 0 rfl ?_
      refine g_aload_n C (f := 0) dX12_read_76 0 rfl ?_
      refine g_getf C (k := 19) (kd := 0) okX12 (by decide) kf_RX12_275 dX12_read_77 (rg_ hC T0.1) T0.2.1 rfl ?_
      obtain ⟨q10, eq10, h⟩ := bd_e h
      refine g_cV C [(0, v9 x0 19)] (cX12_plain_ok l hC T0 eq10) okX12 T0.2.1 (rg_ hC T0.1) km_RX12_194 cv_X12_plain rfl (by decide) rfl rfl (Nat.le_of_ble_eq_true rfl) dX12_read_80 ?_
      refine g_sub [0] rfl rfl ?_
      exact tX12_read_83 C hr hlk hC _ _ _ T0 h
    · replace h := if_f h c2
      refine g_aload_n C (f := 0) dX12_read_18 0 rfl ?_
      have F50 := fX12_3 hC T0.1 T0.2.1
      refine g_getR C (k := 3) (o := 2) okX12 (by decide) kf_RX12_17 dX12_read_19 hC T0.1 T0.2.1 rfl rfl ?_
      refine g_iload_n C (f := 1) dX12_read_22 1 rfl ?_
      refine g_aload_n C (f := 0) dX12_read_23 0 rfl ?_
      have F51 := fX12_1 hC T0.1 T0.2.1
      refine g_getR C (k := 1) (o := 1) okX12 (by decide) kf_RX12_13 dX12_read_24 hC T0.1 T0.2.1 rfl rfl ?_
      refine g_iload_n C (f := 1) dX12_read_27 1 rfl ?_
      obtain ⟨c52, h⟩ := ck_e h
      refine g_bald C 2000 dX12_read_28 (rg_ hC F51.1) F51.2.1 F51.2.2 c52 ?_
      obtain ⟨c53, h⟩ := ck_e h
      obtain ⟨v54, ev54, h⟩ := lt_e h
      refine g_bast C 2000 dX12_read_29 (rg_ hC F50.1) F50.2.1 F50.2.2 c53 v54 ev54 ?_
      obtain ⟨y55, ey55, h⟩ := lt_e h
      refine g_iincx C (ls' := [(1, (0, y55)), (0, (2, x0))]) ey55 dX12_read_30 1 rfl (by decide) (by decide) rfl ?_
      refine g_goto C 10 dX12_read_33 rfl ?_
      refine g_sub [1, 0] rfl rfl ?_
      exact H_10 _ _ _ T0 h
end
theorem cX12_read_ok (l : Launch) {E : En_} {sz : Int} (hC : Cl_ E.2.2.2.2.2 sz) {x0 : Int} {v : V_} {out : Int × V_} (T0 : (E.2.2.2.2.2 x0 ∧ ty_ x0 = 12 ∧ ln_ x0 = 0)) (h : fX12_read x0 v = some out) : Met l yX12_read [.code yX12_read cX12_read 3 (some FieldType.int)] (rm_ 7 147) (Pc_ E sz v [(2, x0)]) (Qc_ E sz 0 out.1 out.2) 0 0 (fun q => E.1 < q) := by
  refine met_G0 RX12 (by decide +kernel) rfl (Nat.le_of_ble_eq_true rfl) ?_
  intro p e s m args below meth c C hr hlk
  rw [fX12_read] at h
  refine g_aload_n C (f := 0) dX12_read_0 0 rfl ?_
  refine g_aload_n C (f := 0) dX12_read_1 0 rfl ?_
  refine g_getf C (k := 2) (kd := 0) okX12 (by decide) kf_RX12_208 dX12_read_2 (rg_ hC T0.1) T0.2.1 rfl ?_
  obtain ⟨v1, ev1, h⟩ := lt_e h
  refine g_putf C (k := 4) (kd := 0) okX12 (by decide) kf_RX12_214 dX12_read_5 (rg_ hC T0.1) T0.2.1 rfl rfl nvI (Or.inl rfl) v1 ev1 ?_
  refine g_iconst C (n := 0) dX12_read_8 (by decide) ?_
  refine g_istore_n C (f := 1) (ls' := [(1, (0, 0)), (0, (2, x0))]) dX12_read_9 (by decide) rfl ?_
  refine g_sub [1, 0] rfl rfl ?_
  exact tX12_read_10 C hr hlk hC _ _ _ _ T0 h
theorem dX12_reg_0 : decode cX12_reg 0 = .ok (.iload_n 1, 1) := by decide +kernel
theorem dX12_reg_1 : decode cX12_reg 1 = .ok (.iconst 0, 1) := by decide +kernel
theorem dX12_reg_2 : decode cX12_reg 2 = .ok (.iconst 5, 1) := by decide +kernel
theorem dX12_reg_3 : decode cX12_reg 3 = .ok (.invokestatic 334, 3) := by decide +kernel
theorem dX12_reg_6 : decode cX12_reg 6 = .ok (.ifCond .eq 12, 3) := by decide +kernel
theorem dX12_reg_9 : decode cX12_reg 9 = .ok (.aload_n 0, 1) := by decide +kernel
theorem dX12_reg_10 : decode cX12_reg 10 = .ok (.getfield 85, 3) := by decide +kernel
theorem dX12_reg_13 : decode cX12_reg 13 = .ok (.iload_n 1, 1) := by decide +kernel
theorem dX12_reg_14 : decode cX12_reg 14 = .ok (.iaload, 1) := by decide +kernel
theorem dX12_reg_15 : decode cX12_reg 15 = .ok (.goto 4, 3) := by decide +kernel
theorem dX12_reg_18 : decode cX12_reg 18 = .ok (.iconst 0, 1) := by decide +kernel
theorem dX12_reg_19 : decode cX12_reg 19 = .ok (.ireturn, 1) := by decide +kernel
def fX12_reg (x0 x1 : Int) (v : V_) : Option (Int × V_) :=
  bd_ (fX12_in x1 0 5 v) fun q1 =>
  if q1.1 = 0 then (
    some (0, q1.2))
  else (
    ck_ (0 ≤ x1 ∧ x1 < 47) (
    some (q1.2 (x0 + 23) x1, q1.2)))
theorem cX12_reg_ok (l : Launch) {E : En_} {sz : Int} (hC : Cl_ E.2.2.2.2.2 sz) {x0 x1 : Int} {v : V_} {out : Int × V_} (T0 : (E.2.2.2.2.2 x0 ∧ ty_ x0 = 12 ∧ ln_ x0 = 0)) (h : fX12_reg x0 x1 v = some out) : Met l yX12_reg [.code yX12_reg cX12_reg 2 (some FieldType.int)] (rm_ 1 22) (Pc_ E sz v [(2, x0), (0, x1)]) (Qc_ E sz 0 out.1 out.2) 0 0 (fun q => E.1 < q) := by
  refine met_G0 RX12 (by decide +kernel) rfl (Nat.le_of_ble_eq_true rfl) ?_
  intro p e s m args below meth c C hr hlk
  rw [fX12_reg] at h
  refine g_iload_n C (f := 1) dX12_reg_0 1 rfl ?_
  refine g_iconst C (n := 0) dX12_reg_1 (by decide) ?_
  refine g_iconst C (n := 5) dX12_reg_2 (by decide) ?_
  obtain ⟨q1, eq1, h⟩ := bd_e h
  refine g_cS C [(0, x1), (0, 0), (0, 5)] (cX12_in_ok l hC eq1) km_RX12_334 cs_X12_in rfl (by decide) rfl rfl (Nat.le_of_ble_eq_true rfl) dX12_reg_3 ?_
  refine g_if_eq C 18 dX12_reg_6 rfl (fun c2 => ?_) (fun c2 => ?_)
  · replace h := if_t h c2
    refine g_iconst C (n := 0) dX12_reg_18 (by decide) ?_
    cases h
    exact g_iret C dX12_reg_19 hr hlk
  · replace h := if_f h c2
    refine g_aload_n C (f := 0) dX12_reg_9 0 rfl ?_
    have F3 := fX12_36 hC T0.1 T0.2.1
    refine g_getR C (k := 36) (o := 23) okX12 (by decide) kf_RX12_85 dX12_reg_10 hC T0.1 T0.2.1 rfl rfl ?_
    refine g_iload_n C (f := 1) dX12_reg_13 1 rfl ?_
    obtain ⟨c4, h⟩ := ck_e h
    refine g_iald C 47 dX12_reg_14 (rg_ hC F3.1) F3.2.1 F3.2.2 c4 ?_
    refine g_goto C 19 dX12_reg_15 rfl ?_
    cases h
    exact g_iret C dX12_reg_19 hr hlk
theorem dX12_rename_0 : decode cX12_rename 0 = .ok (.aload_n 0, 1) := by decide +kernel
theorem dX12_rename_1 : decode cX12_rename 1 = .ok (.bipush 38, 2) := by decide +kernel
theorem dX12_rename_3 : decode cX12_rename 3 = .ok (.iload_n 1, 1) := by decide +kernel
theorem dX12_rename_4 : decode cX12_rename 4 = .ok (.ifCond .eq 7, 3) := by decide +kernel
theorem dX12_rename_7 : decode cX12_rename 7 = .ok (.iconst 1, 1) := by decide +kernel
theorem dX12_rename_8 : decode cX12_rename 8 = .ok (.goto 4, 3) := by decide +kernel
theorem dX12_rename_11 : decode cX12_rename 11 = .ok (.iconst 0, 1) := by decide +kernel
theorem dX12_rename_12 : decode cX12_rename 12 = .ok (.invokevirtual 551, 3) := by decide +kernel
theorem dX12_rename_15 : decode cX12_rename 15 = .ok (.ireturn, 1) := by decide +kernel
def fX12_rename (x0 x1 : Int) (v : V_) : Option (Int × V_) :=
  if x1 = 0 then (
    bd_ (fX12_becomes x0 38 0 v) fun q2 =>
    ck_ (q2.1 = 0 ∨ q2.1 = 1) (
    some (q2.1, q2.2)))
  else (
    bd_ (fX12_becomes x0 38 1 v) fun q4 =>
    ck_ (q4.1 = 0 ∨ q4.1 = 1) (
    some (q4.1, q4.2)))
theorem cX12_rename_ok (l : Launch) {E : En_} {sz : Int} (hC : Cl_ E.2.2.2.2.2 sz) {x0 x1 : Int} {v : V_} {out : Int × V_} (T0 : (E.2.2.2.2.2 x0 ∧ ty_ x0 = 12 ∧ ln_ x0 = 0)) (h : fX12_rename x0 x1 v = some out) : Met l yX12_rename [.code yX12_rename cX12_rename 2 (some FieldType.boolean)] (rm_ 3 64) (Pc_ E sz v [(2, x0), (0, x1)]) (Qc_ E sz 0 out.1 out.2) 0 0 (fun q => E.1 < q) := by
  refine met_G0 RX12 (by decide +kernel) rfl (Nat.le_of_ble_eq_true rfl) ?_
  intro p e s m args below meth c C hr hlk
  rw [fX12_rename] at h
  refine g_aload_n C (f := 0) dX12_rename_0 0 rfl ?_
  refine g_bipush C (n := 38) dX12_rename_1 (by decide) ?_
  refine g_iload_n C (f := 1) dX12_rename_3 1 rfl ?_
  refine g_if_eq C 11 dX12_rename_4 rfl (fun c1 => ?_) (fun c1 => ?_)
  · replace h := if_t h c1
    refine g_iconst C (n := 0) dX12_rename_11 (by decide) ?_
    obtain ⟨q2, eq2, h⟩ := bd_e h
    refine g_cV C [(0, 38), (0, 0)] (cX12_becomes_ok l hC T0 eq2) okX12 T0.2.1 (rg_ hC T0.1) km_RX12_551 cv_X12_becomes rfl (by decide) rfl rfl (Nat.le_of_ble_eq_true rfl) dX12_rename_12 ?_
    obtain ⟨c3, h⟩ := ck_e h
    cases h
    exact g_zret C dX12_rename_15 hr hlk c3
  · replace h := if_f h c1
    refine g_iconst C (n := 1) dX12_rename_7 (by decide) ?_
    refine g_goto C 12 dX12_rename_8 rfl ?_
    obtain ⟨q4, eq4, h⟩ := bd_e h
    refine g_cV C [(0, 38), (0, 1)] (cX12_becomes_ok l hC T0 eq4) okX12 T0.2.1 (rg_ hC T0.1) km_RX12_551 cv_X12_becomes rfl (by decide) rfl rfl (Nat.le_of_ble_eq_true rfl) dX12_rename_12 ?_
    obtain ⟨c5, h⟩ := ck_e h
    cases h
    exact g_zret C dX12_rename_15 hr hlk c5
theorem dX12_restore_0 : decode cX12_restore 0 = .ok (.iload_n 1, 1) := by decide +kernel
theorem dX12_restore_1 : decode cX12_restore 1 = .ok (.iconst 0, 1) := by decide +kernel
theorem dX12_restore_2 : decode cX12_restore 2 = .ok (.iconst 2, 1) := by decide +kernel
theorem dX12_restore_3 : decode cX12_restore 3 = .ok (.invokestatic 334, 3) := by decide +kernel
theorem dX12_restore_6 : decode cX12_restore 6 = .ok (.ifCond .eq 12, 3) := by decide +kernel
theorem dX12_restore_9 : decode cX12_restore 9 = .ok (.aload_n 0, 1) := by decide +kernel
theorem dX12_restore_10 : decode cX12_restore 10 = .ok (.getfield 188, 3) := by decide +kernel
theorem dX12_restore_13 : decode cX12_restore 13 = .ok (.iload_n 1, 1) := by decide +kernel
theorem dX12_restore_14 : decode cX12_restore 14 = .ok (.baload, 1) := by decide +kernel
theorem dX12_restore_15 : decode cX12_restore 15 = .ok (.ifCond .ne 5, 3) := by decide +kernel
theorem dX12_restore_18 : decode cX12_restore 18 = .ok (.iconst 0, 1) := by decide +kernel
theorem dX12_restore_19 : decode cX12_restore 19 = .ok (.ireturn, 1) := by decide +kernel
theorem dX12_restore_20 : decode cX12_restore 20 = .ok (.iconst 0, 1) := by decide +kernel
theorem dX12_restore_21 : decode cX12_restore 21 = .ok (.istore_n 2, 1) := by decide +kernel
theorem dX12_restore_22 : decode cX12_restore 22 = .ok (.iload_n 2, 1) := by decide +kernel
theorem dX12_restore_23 : decode cX12_restore 23 = .ok (.bipush 47, 2) := by decide +kernel
theorem dX12_restore_25 : decode cX12_restore 25 = .ok (.if_icmp .ge 26, 3) := by decide +kernel
theorem dX12_restore_28 : decode cX12_restore 28 = .ok (.aload_n 0, 1) := by decide +kernel
theorem dX12_restore_29 : decode cX12_restore 29 = .ok (.getfield 85, 3) := by decide +kernel
theorem dX12_restore_32 : decode cX12_restore 32 = .ok (.iload_n 2, 1) := by decide +kernel
theorem dX12_restore_33 : decode cX12_restore 33 = .ok (.aload_n 0, 1) := by decide +kernel
theorem dX12_restore_34 : decode cX12_restore 34 = .ok (.getfield 191, 3) := by decide +kernel
theorem dX12_restore_37 : decode cX12_restore 37 = .ok (.bipush 47, 2) := by decide +kernel
theorem dX12_restore_39 : decode cX12_restore 39 = .ok (.iload_n 1, 1) := by decide +kernel
theorem dX12_restore_40 : decode cX12_restore 40 = .ok (.imul, 1) := by decide +kernel
theorem dX12_restore_41 : decode cX12_restore 41 = .ok (.iload_n 2, 1) := by decide +kernel
theorem dX12_restore_42 : decode cX12_restore 42 = .ok (.iadd, 1) := by decide +kernel
theorem dX12_restore_43 : decode cX12_restore 43 = .ok (.iaload, 1) := by decide +kernel
theorem dX12_restore_44 : decode cX12_restore 44 = .ok (.iastore, 1) := by decide +kernel
theorem dX12_restore_45 : decode cX12_restore 45 = .ok (.iinc 2 1, 3) := by decide +kernel
theorem dX12_restore_48 : decode cX12_restore 48 = .ok (.goto (-26), 3) := by decide +kernel
theorem dX12_restore_51 : decode cX12_restore 51 = .ok (.aload_n 0, 1) := by decide +kernel
theorem dX12_restore_52 : decode cX12_restore 52 = .ok (.iconst 0, 1) := by decide +kernel
theorem dX12_restore_53 : decode cX12_restore 53 = .ok (.putfield 291, 3) := by decide +kernel
theorem dX12_restore_56 : decode cX12_restore 56 = .ok (.aload_n 0, 1) := by decide +kernel
theorem dX12_restore_57 : decode cX12_restore 57 = .ok (.iconst 0, 1) := by decide +kernel
theorem dX12_restore_58 : decode cX12_restore 58 = .ok (.putfield 287, 3) := by decide +kernel
theorem dX12_restore_61 : decode cX12_restore 61 = .ok (.iconst 1, 1) := by decide +kernel
theorem dX12_restore_62 : decode cX12_restore 62 = .ok (.ireturn, 1) := by decide +kernel
def fX12_restore_22 : Nat → Int → Int → Int → V_ → Option (Int × V_)
  | 0, _, _, _, _ => none
  | n + 1, x0, x1, x2, v =>
    if 47 ≤ x2 then (
      lt_ (up_ v x0 77 0) fun v7 =>
      lt_ (up_ v7 x0 69 0) fun v8 =>
      some (1, v8))
    else (
      ck_ (0 ≤ wr_ ((wr_ (47 * x1)) + x2) ∧ wr_ ((wr_ (47 * x1)) + x2) < 141) (
      ck_ (0 ≤ x2 ∧ x2 < 47) (
      lt_ (up_ v (x0 + 23) x2 (v (x0 + 58) (wr_ ((wr_ (47 * x1)) + x2)))) fun v13 =>
      lt_ (wr_ (x2 + 1)) fun y14 =>
      (fX12_restore_22 n) x0 x1 y14 v13)))
def fX12_restore (x0 x1 : Int) (v : V_) : Option (Int × V_) :=
  bd_ (fX12_in x1 0 2 v) fun q1 =>
  if q1.1 = 0 then (
    some (0, q1.2))
  else (
    ck_ (0 ≤ x1 ∧ x1 < 3) (
    if (q1.2 (x0 + 57) x1) = 0 then (
      some (0, q1.2))
    else (
      fX12_restore_22 fu_ x0 x1 0 q1.2)))
section
variable {E : En_} {p : Program} {l : Launch} {e : Env} {s : State} {m : MethodId} {args : Array Value} {below : List Frame} {meth : Method} {c : Code} {sz : Int}
theorem tX12_restore_22 (C : MC_ E p s m c cX12_restore 3 RX12) (hr : meth.sig.returnType = (some FieldType.boolean)) (hlk : meth.locks = false) (hC : Cl_ E.2.2.2.2.2 sz) {out : Int × V_} : ∀ (n : Nat) (x0 x1 x2 : Int) (v : V_), (E.2.2.2.2.2 x0 ∧ ty_ x0 = 12 ∧ ln_ x0 = 0) → fX12_restore_22 n x0 x1 x2 v = some out → G_ E p l e (rm_ 1 22) s m args below meth c 3 sz (Q_ E below args s sz sz 0 out.1 out.2) 22 [(0, (2, x0)), (1, (0, x1)), (2, (0, x2))] [] v sz := by
  intro n
  induction n with
  | zero =>
    intro x0 x1 x2 v T0 h
    cases h
  | succ n H_22 =>
    intro x0 x1 x2 v T0 h
    rw [fX12_restore_22] at h
    refine g_iload_n C (f := 2) dX12_restore_22 2 rfl ?_
    refine g_bipush C (n := 47) dX12_restore_23 (by decide) ?_
    refine g_icmp_ge C 51 dX12_restore_25 rfl (fun c6 => ?_) (fun c6 => ?_)
    · replace h := if_t h c6
      refine g_aload_n C (f := 0) dX12_restore_51 0 rfl ?_
      refine g_iconst C (n := 0) dX12_restore_52 (by decide) ?_
      obtain ⟨v7, ev7, h⟩ := lt_e h
      refine g_putf C (k := 77) (kd := 0) okX12 (by decide) kf_RX12_291 dX12_restore_53 (rg_ hC T0.1) T0.2.1 rfl rfl nvI (Or.inl rfl) v7 ev7 ?_
      refine g_aload_n C (f := 0) dX12_restore_56 0 rfl ?_
      refine g_iconst C (n := 0) dX12_restore_57 (by decide) ?_
      obtain ⟨v8, ev8, h⟩ := lt_e h
      refine g_putf C (k := 69) (kd := 0) okX12 (by decide) kf_RX12_287 dX12_restore_58 (rg_ hC T0.1) T0.2.1 rfl rfl (nvZ (Or.inl rfl)) (Or.inl rfl) v8 ev8 ?_
      refine g_iconst C (n := 1) dX12_restore_61 (by decide) ?_
      cases h
      exact g_zret C dX12_restore_62 hr hlk (Or.inr rfl)
    · replace h := if_f h c6
      refine g_aload_n C (f := 0) dX12_restore_28 0 rfl ?_
      have F9 := fX12_36 hC T0.1 T0.2.1
      refine g_getR C (k := 36) (o := 23) okX12 (by decide) kf_RX12_85 dX12_restore_29 hC T0.1 T0.2.1 rfl rfl ?_
      refine g_iload_n C (f := 2) dX12_restore_32 2 rfl ?_
      refine g_aload_n C (f := 0) dX12_restore_33 0 rfl ?_
      have F10 := fX12_81 hC T0.1 T0.2.1
      refine g_getR C (k := 81) (o := 58) okX12 (by decide) kf_RX12_191 dX12_restore_34 hC T0.1 T0.2.1 rfl rfl ?_
      refine g_bipush C (n := 47) dX12_restore_37 (by decide) ?_
      refine g_iload_n C (f := 1) dX12_restore_39 1 rfl ?_
      refine g_imul C dX12_restore_40 ?_
      refine g_iload_n C (f := 2) dX12_restore_41 2 rfl ?_
      refine g_iadd C dX12_restore_42 ?_
      obtain ⟨c11, h⟩ := ck_e h
      refine g_iald C 141 dX12_restore_43 (rg_ hC F10.1) F10.2.1 F10.2.2 c11 ?_
      obtain ⟨c12, h⟩ := ck_e h
      obtain ⟨v13, ev13, h⟩ := lt_e h
      refine g_iast C 47 dX12_restore_44 (rg_ hC F9.1) F9.2.1 F9.2.2 c12 v13 ev13 ?_
      obtain ⟨y14, ey14, h⟩ := lt_e h
      refine g_iincx C (ls' := [(2, (0, y14)), (0, (2, x0)), (1, (0, x1))]) ey14 dX12_restore_45 2 rfl (by decide) (by decide) rfl ?_
      refine g_goto C 22 dX12_restore_48 rfl ?_
      refine g_sub [1, 2, 0] rfl rfl ?_
      exact H_22 _ _ _ _ T0 h
end
theorem cX12_restore_ok (l : Launch) {E : En_} {sz : Int} (hC : Cl_ E.2.2.2.2.2 sz) {x0 x1 : Int} {v : V_} {out : Int × V_} (T0 : (E.2.2.2.2.2 x0 ∧ ty_ x0 = 12 ∧ ln_ x0 = 0)) (h : fX12_restore x0 x1 v = some out) : Met l yX12_restore [.code yX12_restore cX12_restore 3 (some FieldType.boolean)] (rm_ 1 22) (Pc_ E sz v [(2, x0), (0, x1)]) (Qc_ E sz 0 out.1 out.2) 0 0 (fun q => E.1 < q) := by
  refine met_G0 RX12 (by decide +kernel) rfl (Nat.le_of_ble_eq_true rfl) ?_
  intro p e s m args below meth c C hr hlk
  rw [fX12_restore] at h
  refine g_iload_n C (f := 1) dX12_restore_0 1 rfl ?_
  refine g_iconst C (n := 0) dX12_restore_1 (by decide) ?_
  refine g_iconst C (n := 2) dX12_restore_2 (by decide) ?_
  obtain ⟨q1, eq1, h⟩ := bd_e h
  refine g_cS C [(0, x1), (0, 0), (0, 2)] (cX12_in_ok l hC eq1) km_RX12_334 cs_X12_in rfl (by decide) rfl rfl (Nat.le_of_ble_eq_true rfl) dX12_restore_3 ?_
  refine g_if_eq C 18 dX12_restore_6 rfl (fun c2 => ?_) (fun c2 => ?_)
  · replace h := if_t h c2
    refine g_iconst C (n := 0) dX12_restore_18 (by decide) ?_
    cases h
    exact g_zret C dX12_restore_19 hr hlk (Or.inl rfl)
  · replace h := if_f h c2
    refine g_aload_n C (f := 0) dX12_restore_9 0 rfl ?_
    have F3 := fX12_80 hC T0.1 T0.2.1
    refine g_getR C (k := 80) (o := 57) okX12 (by decide) kf_RX12_188 dX12_restore_10 hC T0.1 T0.2.1 rfl rfl ?_
    refine g_iload_n C (f := 1) dX12_restore_13 1 rfl ?_
    obtain ⟨c4, h⟩ := ck_e h
    refine g_zald C 3 dX12_restore_14 (rg_ hC F3.1) F3.2.1 F3.2.2 c4 ?_
    refine g_if_ne C 20 dX12_restore_15 rfl (fun c5 => ?_) (fun c5 => ?_)
    · replace h := if_f h c5
      refine g_iconst C (n := 0) dX12_restore_20 (by decide) ?_
      refine g_istore_n C (f := 2) (ls' := [(2, (0, 0)), (0, (2, x0)), (1, (0, x1))]) dX12_restore_21 (by decide) rfl ?_
      refine g_sub [1, 2, 0] rfl rfl ?_
      exact tX12_restore_22 C hr hlk hC _ _ _ _ _ T0 h
    · replace h := if_t h c5
      refine g_iconst C (n := 0) dX12_restore_18 (by decide) ?_
      cases h
      exact g_zret C dX12_restore_19 hr hlk (Or.inl rfl)
theorem dX12_run_0 : decode cX12_run 0 = .ok (.aload_n 0, 1) := by decide +kernel
theorem dX12_run_1 : decode cX12_run 1 = .ok (.invokevirtual 476, 3) := by decide +kernel
theorem dX12_run_4 : decode cX12_run 4 = .ok (.aload_n 0, 1) := by decide +kernel
theorem dX12_run_5 : decode cX12_run 5 = .ok (.invokevirtual 555, 3) := by decide +kernel
theorem dX12_run_8 : decode cX12_run 8 = .ok (.istore_n 1, 1) := by decide +kernel
theorem dX12_run_9 : decode cX12_run 9 = .ok (.iconst 0, 1) := by decide +kernel
theorem dX12_run_10 : decode cX12_run 10 = .ok (.istore_n 2, 1) := by decide +kernel
theorem dX12_run_11 : decode cX12_run 11 = .ok (.iload_n 2, 1) := by decide +kernel
theorem dX12_run_12 : decode cX12_run 12 = .ok (.bipush 8, 2) := by decide +kernel
theorem dX12_run_14 : decode cX12_run 14 = .ok (.if_icmp .ge 36, 3) := by decide +kernel
theorem dX12_run_17 : decode cX12_run 17 = .ok (.aload_n 0, 1) := by decide +kernel
theorem dX12_run_18 : decode cX12_run 18 = .ok (.getfield 88, 3) := by decide +kernel
theorem dX12_run_21 : decode cX12_run 21 = .ok (.bipush 14, 2) := by decide +kernel
theorem dX12_run_23 : decode cX12_run 23 = .ok (.iload_n 2, 1) := by decide +kernel
theorem dX12_run_24 : decode cX12_run 24 = .ok (.iadd, 1) := by decide +kernel
theorem dX12_run_25 : decode cX12_run 25 = .ok (.aload_n 0, 1) := by decide +kernel
theorem dX12_run_26 : decode cX12_run 26 = .ok (.getfield 88, 3) := by decide +kernel
theorem dX12_run_29 : decode cX12_run 29 = .ok (.bipush 14, 2) := by decide +kernel
theorem dX12_run_31 : decode cX12_run 31 = .ok (.iload_n 2, 1) := by decide +kernel
theorem dX12_run_32 : decode cX12_run 32 = .ok (.iadd, 1) := by decide +kernel
theorem dX12_run_33 : decode cX12_run 33 = .ok (.iaload, 1) := by decide +kernel
theorem dX12_run_34 : decode cX12_run 34 = .ok (.aload_n 0, 1) := by decide +kernel
theorem dX12_run_35 : decode cX12_run 35 = .ok (.getfield 97, 3) := by decide +kernel
theorem dX12_run_38 : decode cX12_run 38 = .ok (.iload_n 2, 1) := by decide +kernel
theorem dX12_run_39 : decode cX12_run 39 = .ok (.iaload, 1) := by decide +kernel
theorem dX12_run_40 : decode cX12_run 40 = .ok (.invokestatic 558, 3) := by decide +kernel
theorem dX12_run_43 : decode cX12_run 43 = .ok (.iastore, 1) := by decide +kernel
theorem dX12_run_44 : decode cX12_run 44 = .ok (.iinc 2 1, 3) := by decide +kernel
theorem dX12_run_47 : decode cX12_run 47 = .ok (.goto (-36), 3) := by decide +kernel
theorem dX12_run_50 : decode cX12_run 50 = .ok (.iconst 0, 1) := by decide +kernel
theorem dX12_run_51 : decode cX12_run 51 = .ok (.istore_n 2, 1) := by decide +kernel
theorem dX12_run_52 : decode cX12_run 52 = .ok (.iload_n 2, 1) := by decide +kernel
theorem dX12_run_53 : decode cX12_run 53 = .ok (.bipush 16, 2) := by decide +kernel
theorem dX12_run_55 : decode cX12_run 55 = .ok (.if_icmp .ge 36, 3) := by decide +kernel
theorem dX12_run_58 : decode cX12_run 58 = .ok (.aload_n 0, 1) := by decide +kernel
theorem dX12_run_59 : decode cX12_run 59 = .ok (.getfield 88, 3) := by decide +kernel
theorem dX12_run_62 : decode cX12_run 62 = .ok (.bipush 22, 2) := by decide +kernel
theorem dX12_run_64 : decode cX12_run 64 = .ok (.iload_n 2, 1) := by decide +kernel
theorem dX12_run_65 : decode cX12_run 65 = .ok (.iadd, 1) := by decide +kernel
theorem dX12_run_66 : decode cX12_run 66 = .ok (.aload_n 0, 1) := by decide +kernel
theorem dX12_run_67 : decode cX12_run 67 = .ok (.getfield 88, 3) := by decide +kernel
theorem dX12_run_70 : decode cX12_run 70 = .ok (.bipush 22, 2) := by decide +kernel
theorem dX12_run_72 : decode cX12_run 72 = .ok (.iload_n 2, 1) := by decide +kernel
theorem dX12_run_73 : decode cX12_run 73 = .ok (.iadd, 1) := by decide +kernel
theorem dX12_run_74 : decode cX12_run 74 = .ok (.iaload, 1) := by decide +kernel
theorem dX12_run_75 : decode cX12_run 75 = .ok (.aload_n 0, 1) := by decide +kernel
theorem dX12_run_76 : decode cX12_run 76 = .ok (.getfield 100, 3) := by decide +kernel
theorem dX12_run_79 : decode cX12_run 79 = .ok (.iload_n 2, 1) := by decide +kernel
theorem dX12_run_80 : decode cX12_run 80 = .ok (.iaload, 1) := by decide +kernel
theorem dX12_run_81 : decode cX12_run 81 = .ok (.invokestatic 558, 3) := by decide +kernel
theorem dX12_run_84 : decode cX12_run 84 = .ok (.iastore, 1) := by decide +kernel
theorem dX12_run_85 : decode cX12_run 85 = .ok (.iinc 2 1, 3) := by decide +kernel
theorem dX12_run_88 : decode cX12_run 88 = .ok (.goto (-36), 3) := by decide +kernel
theorem dX12_run_91 : decode cX12_run 91 = .ok (.iconst 0, 1) := by decide +kernel
theorem dX12_run_92 : decode cX12_run 92 = .ok (.istore_n 2, 1) := by decide +kernel
theorem dX12_run_93 : decode cX12_run 93 = .ok (.iload_n 2, 1) := by decide +kernel
theorem dX12_run_94 : decode cX12_run 94 = .ok (.bipush 6, 2) := by decide +kernel
theorem dX12_run_96 : decode cX12_run 96 = .ok (.if_icmp .ge 25, 3) := by decide +kernel
theorem dX12_run_99 : decode cX12_run 99 = .ok (.iload_n 1, 1) := by decide +kernel
theorem dX12_run_100 : decode cX12_run 100 = .ok (.ifCond .ne 21, 3) := by decide +kernel
theorem dX12_run_103 : decode cX12_run 103 = .ok (.aload_n 0, 1) := by decide +kernel
theorem dX12_run_104 : decode cX12_run 104 = .ok (.getfield 88, 3) := by decide +kernel
theorem dX12_run_107 : decode cX12_run 107 = .ok (.iload_n 2, 1) := by decide +kernel
theorem dX12_run_108 : decode cX12_run 108 = .ok (.aload_n 0, 1) := by decide +kernel
theorem dX12_run_109 : decode cX12_run 109 = .ok (.getfield 91, 3) := by decide +kernel
theorem dX12_run_112 : decode cX12_run 112 = .ok (.iload_n 2, 1) := by decide +kernel
theorem dX12_run_113 : decode cX12_run 113 = .ok (.iaload, 1) := by decide +kernel
theorem dX12_run_114 : decode cX12_run 114 = .ok (.iastore, 1) := by decide +kernel
theorem dX12_run_115 : decode cX12_run 115 = .ok (.iinc 2 1, 3) := by decide +kernel
theorem dX12_run_118 : decode cX12_run 118 = .ok (.goto (-25), 3) := by decide +kernel
theorem dX12_run_121 : decode cX12_run 121 = .ok (.iconst 0, 1) := by decide +kernel
theorem dX12_run_122 : decode cX12_run 122 = .ok (.istore_n 2, 1) := by decide +kernel
theorem dX12_run_123 : decode cX12_run 123 = .ok (.iload_n 2, 1) := by decide +kernel
theorem dX12_run_124 : decode cX12_run 124 = .ok (.bipush 8, 2) := by decide +kernel
theorem dX12_run_126 : decode cX12_run 126 = .ok (.if_icmp .ge 28, 3) := by decide +kernel
theorem dX12_run_129 : decode cX12_run 129 = .ok (.iload_n 1, 1) := by decide +kernel
theorem dX12_run_130 : decode cX12_run 130 = .ok (.ifCond .ne 24, 3) := by decide +kernel
theorem dX12_run_133 : decode cX12_run 133 = .ok (.aload_n 0, 1) := by decide +kernel
theorem dX12_run_134 : decode cX12_run 134 = .ok (.getfield 88, 3) := by decide +kernel
theorem dX12_run_137 : decode cX12_run 137 = .ok (.bipush 6, 2) := by decide +kernel
theorem dX12_run_139 : decode cX12_run 139 = .ok (.iload_n 2, 1) := by decide +kernel
theorem dX12_run_140 : decode cX12_run 140 = .ok (.iadd, 1) := by decide +kernel
theorem dX12_run_141 : decode cX12_run 141 = .ok (.aload_n 0, 1) := by decide +kernel
theorem dX12_run_142 : decode cX12_run 142 = .ok (.getfield 94, 3) := by decide +kernel
theorem dX12_run_145 : decode cX12_run 145 = .ok (.iload_n 2, 1) := by decide +kernel
theorem dX12_run_146 : decode cX12_run 146 = .ok (.iaload, 1) := by decide +kernel
theorem dX12_run_147 : decode cX12_run 147 = .ok (.iastore, 1) := by decide +kernel
theorem dX12_run_148 : decode cX12_run 148 = .ok (.iinc 2 1, 3) := by decide +kernel
theorem dX12_run_151 : decode cX12_run 151 = .ok (.goto (-28), 3) := by decide +kernel
theorem dX12_run_154 : decode cX12_run 154 = .ok (.aload_n 0, 1) := by decide +kernel
theorem dX12_run_155 : decode cX12_run 155 = .ok (.invokevirtual 548, 3) := by decide +kernel
theorem dX12_run_158 : decode cX12_run 158 = .ok (.iload_n 1, 1) := by decide +kernel
theorem dX12_run_159 : decode cX12_run 159 = .ok (.ireturn, 1) := by decide +kernel
def fX12_run_123 : Nat → Int → Int → Int → V_ → Option (Int × V_)
  | 0, _, _, _, _ => none
  | n + 1, x0, x1, x2, v =>
    if 8 ≤ x2 then (
      bd_ (fX12_records x0 v) fun q7 =>
      some (x1, q7.2))
    else (
      if x1 = 0 then (
        ck_ (0 ≤ x2 ∧ x2 < 8) (
        ck_ (0 ≤ wr_ (6 + x2) ∧ wr_ (6 + x2) < 47) (
        lt_ (up_ v (x0 + 24) (wr_ (6 + x2)) (v (x0 + 26) x2)) fun v14 =>
        lt_ (wr_ (x2 + 1)) fun y15 =>
        (fX12_run_123 n) x0 x1 y15 v14)))
      else (
        bd_ (fX12_records x0 v) fun q9 =>
        some (x1, q9.2)))
def fX12_run_93 : Nat → Int → Int → Int → V_ → Option (Int × V_)
  | 0, _, _, _, _ => none
  | n + 1, x0, x1, x2, v =>
    if 6 ≤ x2 then (
      fX12_run_123 fu_ x0 x1 0 v)
    else (
      if x1 = 0 then (
        ck_ (0 ≤ x2 ∧ x2 < 12) (
        ck_ (0 ≤ x2 ∧ x2 < 47) (
        lt_ (up_ v (x0 + 24) x2 (v (x0 + 25) x2)) fun v21 =>
        lt_ (wr_ (x2 + 1)) fun y22 =>
        (fX12_run_93 n) x0 x1 y22 v21)))
      else (
        fX12_run_123 fu_ x0 x1 0 v))
def fX12_run_52 : Nat → Int → Int → Int → V_ → Option (Int × V_)
  | 0, _, _, _, _ => none
  | n + 1, x0, x1, x2, v =>
    if 16 ≤ x2 then (
      fX12_run_93 fu_ x0 x1 0 v)
    else (
      ck_ (0 ≤ wr_ (22 + x2) ∧ wr_ (22 + x2) < 47) (
      ck_ (0 ≤ x2 ∧ x2 < 16) (
      bd_ (fX12_counted (v (x0 + 24) (wr_ (22 + x2))) (v (x0 + 28) x2) v) fun q28 =>
      ck_ (0 ≤ wr_ (22 + x2) ∧ wr_ (22 + x2) < 47) (
      lt_ (up_ q28.2 (x0 + 24) (wr_ (22 + x2)) q28.1) fun v30 =>
      lt_ (wr_ (x2 + 1)) fun y31 =>
      (fX12_run_52 n) x0 x1 y31 v30))))
def fX12_run_11 : Nat → Int → Int → Int → V_ → Option (Int × V_)
  | 0, _, _, _, _ => none
  | n + 1, x0, x1, x2, v =>
    if 8 ≤ x2 then (
      fX12_run_52 fu_ x0 x1 0 v)
    else (
      ck_ (0 ≤ wr_ (14 + x2) ∧ wr_ (14 + x2) < 47) (
      ck_ (0 ≤ x2 ∧ x2 < 8) (
      bd_ (fX12_counted (v (x0 + 24) (wr_ (14 + x2))) (v (x0 + 27) x2) v) fun q37 =>
      ck_ (0 ≤ wr_ (14 + x2) ∧ wr_ (14 + x2) < 47) (
      lt_ (up_ q37.2 (x0 + 24) (wr_ (14 + x2)) q37.1) fun v39 =>
      lt_ (wr_ (x2 + 1)) fun y40 =>
      (fX12_run_11 n) x0 x1 y40 v39))))
def fX12_run (x0 : Int) (v : V_) : Option (Int × V_) :=
  bd_ (fX12_copies x0 v) fun q1 =>
  bd_ (fX12_runsSlow x0 q1.2) fun q2 =>
  fX12_run_11 fu_ x0 q2.1 0 q2.2
section
variable {E : En_} {p : Program} {l : Launch} {e : Env} {s : State} {m : MethodId} {args : Array Value} {below : List Frame} {meth : Method} {c : Code} {sz : Int}
theorem tX12_run_123 (C : MC_ E p s m c cX12_run 3 RX12) (hr : meth.sig.returnType = (some FieldType.int)) (hlk : meth.locks = false) (hC : Cl_ E.2.2.2.2.2 sz) {out : Int × V_} : ∀ (n : Nat) (x0 x1 x2 : Int) (v : V_), (E.2.2.2.2.2 x0 ∧ ty_ x0 = 12 ∧ ln_ x0 = 0) → fX12_run_123 n x0 x1 x2 v = some out → G_ E p l e (rm_ 4 92) s m args below meth c 3 sz (Q_ E below args s sz sz 0 out.1 out.2) 123 [(0, (2, x0)), (1, (0, x1)), (2, (0, x2))] [] v sz := by
  intro n
  induction n with
  | zero =>
    intro x0 x1 x2 v T0 h
    cases h
  | succ n H_123 =>
    intro x0 x1 x2 v T0 h
    rw [fX12_run_123] at h
    refine g_iload_n C (f := 2) dX12_run_123 2 rfl ?_
    refine g_bipush C (n := 8) dX12_run_124 (by decide) ?_
    refine g_icmp_ge C 154 dX12_run_126 rfl (fun c6 => ?_) (fun c6 => ?_)
    · replace h := if_t h c6
      refine g_aload_n C (f := 0) dX12_run_154 0 rfl ?_
      obtain ⟨q7, eq7, h⟩ := bd_e h
      refine g_cV C [] (cX12_records_ok l hC T0 eq7) okX12 T0.2.1 (rg_ hC T0.1) km_RX12_548 cv_X12_records rfl (by decide) rfl rfl (Nat.le_of_ble_eq_true rfl) dX12_run_155 ?_
      refine g_iload_n C (f := 1) dX12_run_158 1 rfl ?_
      cases h
      exact g_iret C dX12_run_159 hr hlk
    · replace h := if_f h c6
      refine g_iload_n C (f := 1) dX12_run_129 1 rfl ?_
      refine g_if_ne C 154 dX12_run_130 rfl (fun c8 => ?_) (fun c8 => ?_)
      · replace h := if_f h c8
        refine g_aload_n C (f := 0) dX12_run_154 0 rfl ?_
        obtain ⟨q9, eq9, h⟩ := bd_e h
        refine g_cV C [] (cX12_records_ok l hC T0 eq9) okX12 T0.2.1 (rg_ hC T0.1) km_RX12_548 cv_X12_records rfl (by decide) rfl rfl (Nat.le_of_ble_eq_true rfl) dX12_run_155 ?_
        refine g_iload_n C (f := 1) dX12_run_158 1 rfl ?_
        cases h
        exact g_iret C dX12_run_159 hr hlk
      · replace h := if_t h c8
        refine g_aload_n C (f := 0) dX12_run_133 0 rfl ?_
        have F10 := fX12_37 hC T0.1 T0.2.1
        refine g_getR C (k := 37) (o := 24) okX12 (by decide) kf_RX12_88 dX12_run_134 hC T0.1 T0.2.1 rfl rfl ?_
        refine g_bipush C (n := 6) dX12_run_137 (by decide) ?_
        refine g_iload_n C (f := 2) dX12_run_139 2 rfl ?_
        refine g_iadd C dX12_run_140 ?_
        refine g_aload_n C (f := 0) dX12_run_141 0 rfl ?_
        have F11 := fX12_39 hC T0.1 T0.2.1
        refine g_getR C (k := 39) (o := 26) okX12 (by decide) kf_RX12_94 dX12_run_142 hC T0.1 T0.2.1 rfl rfl ?_
        refine g_iload_n C (f := 2) dX12_run_145 2 rfl ?_
        obtain ⟨c12, h⟩ := ck_e h
        refine g_iald C 8 dX12_run_146 (rg_ hC F11.1) F11.2.1 F11.2.2 c12 ?_
        obtain ⟨c13, h⟩ := ck_e h
        obtain ⟨v14, ev14, h⟩ := lt_e h
        refine g_iast C 47 dX12_run_147 (rg_ hC F10.1) F10.2.1 F10.2.2 c13 v14 ev14 ?_
        obtain ⟨y15, ey15, h⟩ := lt_e h
        refine g_iincx C (ls' := [(2, (0, y15)), (0, (2, x0)), (1, (0, x1))]) ey15 dX12_run_148 2 rfl (by decide) (by decide) rfl ?_
        refine g_goto C 123 dX12_run_151 rfl ?_
        refine g_sub [1, 2, 0] rfl rfl ?_
        exact H_123 _ _ _ _ T0 h
theorem tX12_run_93 (C : MC_ E p s m c cX12_run 3 RX12) (hr : meth.sig.returnType = (some FieldType.int)) (hlk : meth.locks = false) (hC : Cl_ E.2.2.2.2.2 sz) {out : Int × V_} : ∀ (n : Nat) (x0 x1 x2 : Int) (v : V_), (E.2.2.2.2.2 x0 ∧ ty_ x0 = 12 ∧ ln_ x0 = 0) → fX12_run_93 n x0 x1 x2 v = some out → G_ E p l e (rm_ 4 92) s m args below meth c 3 sz (Q_ E below args s sz sz 0 out.1 out.2) 93 [(0, (2, x0)), (1, (0, x1)), (2, (0, x2))] [] v sz := by
  intro n
  induction n with
  | zero =>
    intro x0 x1 x2 v T0 h
    cases h
  | succ n H_93 =>
    intro x0 x1 x2 v T0 h
    rw [fX12_run_93] at h
    refine g_iload_n C (f := 2) dX12_run_93 2 rfl ?_
    refine g_bipush C (n := 6) dX12_run_94 (by decide) ?_
    refine g_icmp_ge C 121 dX12_run_96 rfl (fun c5 => ?_) (fun c5 => ?_)
    · replace h := if_t h c5
      refine g_iconst C (n := 0) dX12_run_121 (by decide) ?_
      refine g_istore_n C (f := 2) (ls' := [(2, (0, 0)), (0, (2, x0)), (1, (0, x1))]) dX12_run_122 (by decide) rfl ?_
      refine g_sub [1, 2, 0] rfl rfl ?_
      exact tX12_run_123 C hr hlk hC _ _ _ _ _ T0 h
    · replace h := if_f h c5
      refine g_iload_n C (f := 1) dX12_run_99 1 rfl ?_
      refine g_if_ne C 121 dX12_run_100 rfl (fun c16 => ?_) (fun c16 => ?_)
      · replace h := if_f h c16
        refine g_iconst C (n := 0) dX12_run_121 (by decide) ?_
        refine g_istore_n C (f := 2) (ls' := [(2, (0, 0)), (0, (2, x0)), (1, (0, x1))]) dX12_run_122 (by decide) rfl ?_
        refine g_sub [1, 2, 0] rfl rfl ?_
        exact tX12_run_123 C hr hlk hC _ _ _ _ _ T0 h
      · replace h := if_t h c16
        refine g_aload_n C (f := 0) dX12_run_103 0 rfl ?_
        have F17 := fX12_37 hC T0.1 T0.2.1
        refine g_getR C (k := 37) (o := 24) okX12 (by decide) kf_RX12_88 dX12_run_104 hC T0.1 T0.2.1 rfl rfl ?_
        refine g_iload_n C (f := 2) dX12_run_107 2 rfl ?_
        refine g_aload_n C (f := 0) dX12_run_108 0 rfl ?_
        have F18 := fX12_38 hC T0.1 T0.2.1
        refine g_getR C (k := 38) (o := 25) okX12 (by decide) kf_RX12_91 dX12_run_109 hC T0.1 T0.2.1 rfl rfl ?_
        refine g_iload_n C (f := 2) dX12_run_112 2 rfl ?_
        obtain ⟨c19, h⟩ := ck_e h
        refine g_iald C 12 dX12_run_113 (rg_ hC F18.1) F18.2.1 F18.2.2 c19 ?_
        obtain ⟨c20, h⟩ := ck_e h
        obtain ⟨v21, ev21, h⟩ := lt_e h
        refine g_iast C 47 dX12_run_114 (rg_ hC F17.1) F17.2.1 F17.2.2 c20 v21 ev21 ?_
        obtain ⟨y22, ey22, h⟩ := lt_e h
        refine g_iincx C (ls' := [(2, (0, y22)), (0, (2, x0)), (1, (0, x1))]) ey22 dX12_run_115 2 rfl (by decide) (by decide) rfl ?_
        refine g_goto C 93 dX12_run_118 rfl ?_
        refine g_sub [1, 2, 0] rfl rfl ?_
        exact H_93 _ _ _ _ T0 h
theorem tX12_run_52 (C : MC_ E p s m c cX12_run 3 RX12) (hr : meth.sig.returnType = (some FieldType.int)) (hlk : meth.locks = false) (hC : Cl_ E.2.2.2.2.2 sz) {out : Int × V_} : ∀ (n : Nat) (x0 x1 x2 : Int) (v : V_), (E.2.2.2.2.2 x0 ∧ ty_ x0 = 12 ∧ ln_ x0 = 0) → fX12_run_52 n x0 x1 x2 v = some out → G_ E p l e (rm_ 4 92) s m args below meth c 3 sz (Q_ E below args s sz sz 0 out.1 out.2) 52 [(0, (2, x0)), (1, (0, x1)), (2, (0, x2))] [] v sz := by
  intro n
  induction n with
  | zero =>
    intro x0 x1 x2 v T0 h
    cases h
  | succ n H_52 =>
    intro x0 x1 x2 v T0 h
    rw [fX12_run_52] at h
    refine g_iload_n C (f := 2) dX12_run_52 2 rfl ?_
    refine g_bipush C (n := 16) dX12_run_53 (by decide) ?_
    refine g_icmp_ge C 91 dX12_run_55 rfl (fun c4 => ?_) (fun c4 => ?_)
    · replace h := if_t h c4
      refine g_iconst C (n := 0) dX12_run_91 (by decide) ?_
      refine g_istore_n C (f := 2) (ls' := [(2, (0, 0)), (0, (2, x0)), (1, (0, x1))]) dX12_run_92 (by decide) rfl ?_
      refine g_sub [1, 2, 0] rfl rfl ?_
      exact tX12_run_93 C hr hlk hC _ _ _ _ _ T0 h
    · replace h := if_f h c4
      refine g_aload_n C (f := 0) dX12_run_58 0 rfl ?_
      have F23 := fX12_37 hC T0.1 T0.2.1
      refine g_getR C (k := 37) (o := 24) okX12 (by decide) kf_RX12_88 dX12_run_59 hC T0.1 T0.2.1 rfl rfl ?_
      refine g_bipush C (n := 22) dX12_run_62 (by decide) ?_
      refine g_iload_n C (f := 2) dX12_run_64 2 rfl ?_
      refine g_iadd C dX12_run_65 ?_
      refine g_aload_n C (f := 0) dX12_run_66 0 rfl ?_
      have F24 := fX12_37 hC T0.1 T0.2.1
      refine g_getR C (k := 37) (o := 24) okX12 (by decide) kf_RX12_88 dX12_run_67 hC T0.1 T0.2.1 rfl rfl ?_
      refine g_bipush C (n := 22) dX12_run_70 (by decide) ?_
      refine g_iload_n C (f := 2) dX12_run_72 2 rfl ?_
      refine g_iadd C dX12_run_73 ?_
      obtain ⟨c25, h⟩ := ck_e h
      refine g_iald C 47 dX12_run_74 (rg_ hC F24.1) F24.2.1 F24.2.2 c25 ?_
      refine g_aload_n C (f := 0) dX12_run_75 0 rfl ?_
      have F26 := fX12_44 hC T0.1 T0.2.1
      refine g_getR C (k := 44) (o := 28) okX12 (by decide) kf_RX12_100 dX12_run_76 hC T0.1 T0.2.1 rfl rfl ?_
      refine g_iload_n C (f := 2) dX12_run_79 2 rfl ?_
      obtain ⟨c27, h⟩ := ck_e h
      refine g_iald C 16 dX12_run_80 (rg_ hC F26.1) F26.2.1 F26.2.2 c27 ?_
      obtain ⟨q28, eq28, h⟩ := bd_e h
      refine g_cS C [(0, v (x0 + 24) (wr_ (22 + x2))), (0, v (x0 + 28) x2)] (cX12_counted_ok l hC eq28) km_RX12_558 cs_X12_counted rfl (by decide) rfl rfl (Nat.le_of_ble_eq_true rfl) dX12_run_81 ?_
      obtain ⟨c29, h⟩ := ck_e h
      obtain ⟨v30, ev30, h⟩ := lt_e h
      refine g_iast C 47 dX12_run_84 (rg_ hC F23.1) F23.2.1 F23.2.2 c29 v30 ev30 ?_
      obtain ⟨y31, ey31, h⟩ := lt_e h
      refine g_iincx C (ls' := [(2, (0, y31)), (0, (2, x0)), (1, (0, x1))]) ey31 dX12_run_85 2 rfl (by decide) (by decide) rfl ?_
      refine g_goto C 52 dX12_run_88 rfl ?_
      refine g_sub [1, 2, 0] rfl rfl ?_
      exact H_52 _ _ _ _ T0 h
theorem tX12_run_11 (C : MC_ E p s m c cX12_run 3 RX12) (hr : meth.sig.returnType = (some FieldType.int)) (hlk : meth.locks = false) (hC : Cl_ E.2.2.2.2.2 sz) {out : Int × V_} : ∀ (n : Nat) (x0 x1 x2 : Int) (v : V_), (E.2.2.2.2.2 x0 ∧ ty_ x0 = 12 ∧ ln_ x0 = 0) → fX12_run_11 n x0 x1 x2 v = some out → G_ E p l e (rm_ 4 92) s m args below meth c 3 sz (Q_ E below args s sz sz 0 out.1 out.2) 11 [(0, (2, x0)), (1, (0, x1)), (2, (0, x2))] [] v sz := by
  intro n
  induction n with
  | zero =>
    intro x0 x1 x2 v T0 h
    cases h
  | succ n H_11 =>
    intro x0 x1 x2 v T0 h
    rw [fX12_run_11] at h
    refine g_iload_n C (f := 2) dX12_run_11 2 rfl ?_
    refine g_bipush C (n := 8) dX12_run_12 (by decide) ?_
    refine g_icmp_ge C 50 dX12_run_14 rfl (fun c3 => ?_) (fun c3 => ?_)
    · replace h := if_t h c3
      refine g_iconst C (n := 0) dX12_run_50 (by decide) ?_
      refine g_istore_n C (f := 2) (ls' := [(2, (0, 0)), (0, (2, x0)), (1, (0, x1))]) dX12_run_51 (by decide) rfl ?_
      refine g_sub [1, 2, 0] rfl rfl ?_
      exact tX12_run_52 C hr hlk hC _ _ _ _ _ T0 h
    · replace h := if_f h c3
      refine g_aload_n C (f := 0) dX12_run_17 0 rfl ?_
      have F32 := fX12_37 hC T0.1 T0.2.1
      refine g_getR C (k := 37) (o := 24) okX12 (by decide) kf_RX12_88 dX12_run_18 hC T0.1 T0.2.1 rfl rfl ?_
      refine g_bipush C (n := 14) dX12_run_21 (by decide) ?_
      refine g_iload_n C (f := 2) dX12_run_23 2 rfl ?_
      refine g_iadd C dX12_run_24 ?_
      refine g_aload_n C (f := 0) dX12_run_25 0 rfl ?_
      have F33 := fX12_37 hC T0.1 T0.2.1
      refine g_getR C (k := 37) (o := 24) okX12 (by decide) kf_RX12_88 dX12_run_26 hC T0.1 T0.2.1 rfl rfl ?_
      refine g_bipush C (n := 14) dX12_run_29 (by decide) ?_
      refine g_iload_n C (f := 2) dX12_run_31 2 rfl ?_
      refine g_iadd C dX12_run_32 ?_
      obtain ⟨c34, h⟩ := ck_e h
      refine g_iald C 47 dX12_run_33 (rg_ hC F33.1) F33.2.1 F33.2.2 c34 ?_
      refine g_aload_n C (f := 0) dX12_run_34 0 rfl ?_
      have F35 := fX12_43 hC T0.1 T0.2.1
      refine g_getR C (k := 43) (o := 27) okX12 (by decide) kf_RX12_97 dX12_run_35 hC T0.1 T0.2.1 rfl rfl ?_
      refine g_iload_n C (f := 2) dX12_run_38 2 rfl ?_
      obtain ⟨c36, h⟩ := ck_e h
      refine g_iald C 8 dX12_run_39 (rg_ hC F35.1) F35.2.1 F35.2.2 c36 ?_
      obtain ⟨q37, eq37, h⟩ := bd_e h
      refine g_cS C [(0, v (x0 + 24) (wr_ (14 + x2))), (0, v (x0 + 27) x2)] (cX12_counted_ok l hC eq37) km_RX12_558 cs_X12_counted rfl (by decide) rfl rfl (Nat.le_of_ble_eq_true rfl) dX12_run_40 ?_
      obtain ⟨c38, h⟩ := ck_e h
      obtain ⟨v39, ev39, h⟩ := lt_e h
      refine g_iast C 47 dX12_run_43 (rg_ hC F32.1) F32.2.1 F32.2.2 c38 v39 ev39 ?_
      obtain ⟨y40, ey40, h⟩ := lt_e h
      refine g_iincx C (ls' := [(2, (0, y40)), (0, (2, x0)), (1, (0, x1))]) ey40 dX12_run_44 2 rfl (by decide) (by decide) rfl ?_
      refine g_goto C 11 dX12_run_47 rfl ?_
      refine g_sub [1, 2, 0] rfl rfl ?_
      exact H_11 _ _ _ _ T0 h
end
theorem cX12_run_ok (l : Launch) {E : En_} {sz : Int} (hC : Cl_ E.2.2.2.2.2 sz) {x0 : Int} {v : V_} {out : Int × V_} (T0 : (E.2.2.2.2.2 x0 ∧ ty_ x0 = 12 ∧ ln_ x0 = 0)) (h : fX12_run x0 v = some out) : Met l yX12_run [.code yX12_run cX12_run 3 (some FieldType.int)] (rm_ 4 92) (Pc_ E sz v [(2, x0)]) (Qc_ E sz 0 out.1 out.2) 0 0 (fun q => E.1 < q) := by
  refine met_G0 RX12 (by decide +kernel) rfl (Nat.le_of_ble_eq_true rfl) ?_
  intro p e s m args below meth c C hr hlk
  rw [fX12_run] at h
  refine g_aload_n C (f := 0) dX12_run_0 0 rfl ?_
  obtain ⟨q1, eq1, h⟩ := bd_e h
  refine g_cV C [] (cX12_copies_ok l hC T0 eq1) okX12 T0.2.1 (rg_ hC T0.1) km_RX12_476 cv_X12_copies rfl (by decide) rfl rfl (Nat.le_of_ble_eq_true rfl) dX12_run_1 ?_
  refine g_aload_n C (f := 0) dX12_run_4 0 rfl ?_
  obtain ⟨q2, eq2, h⟩ := bd_e h
  refine g_cV C [] (cX12_runsSlow_ok l hC T0 eq2) okX12 T0.2.1 (rg_ hC T0.1) km_RX12_555 cv_X12_runsSlow rfl (by decide) rfl rfl (Nat.le_of_ble_eq_true rfl) dX12_run_5 ?_
  refine g_istore_n C (f := 1) (ls' := [(1, (0, q2.1)), (0, (2, x0))]) dX12_run_8 (by decide) rfl ?_
  refine g_iconst C (n := 0) dX12_run_9 (by decide) ?_
  refine g_istore_n C (f := 2) (ls' := [(2, (0, 0)), (1, (0, q2.1)), (0, (2, x0))]) dX12_run_10 (by decide) rfl ?_
  refine g_sub [2, 1, 0] rfl rfl ?_
  exact tX12_run_11 C hr hlk hC _ _ _ _ _ T0 h
