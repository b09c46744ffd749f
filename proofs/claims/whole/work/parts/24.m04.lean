theorem dX9_addFrom_0 : decode cX9_addFrom 0 = .ok (.aload_n 1, 1) := by decide +kernel
theorem dX9_addFrom_1 : decode cX9_addFrom 1 = .ok (.iload_n 2, 1) := by decide +kernel
theorem dX9_addFrom_2 : decode cX9_addFrom 2 = .ok (.baload, 1) := by decide +kernel
theorem dX9_addFrom_3 : decode cX9_addFrom 3 = .ok (.invokestatic 62, 3) := by decide +kernel
theorem dX9_addFrom_6 : decode cX9_addFrom 6 = .ok (.ifCond .eq 40, 3) := by decide +kernel
theorem dX9_addFrom_9 : decode cX9_addFrom 9 = .ok (.aload_n 1, 1) := by decide +kernel
theorem dX9_addFrom_10 : decode cX9_addFrom 10 = .ok (.iload_n 2, 1) := by decide +kernel
theorem dX9_addFrom_11 : decode cX9_addFrom 11 = .ok (.iload_n 3, 1) := by decide +kernel
theorem dX9_addFrom_12 : decode cX9_addFrom 12 = .ok (.invokestatic 66, 3) := by decide +kernel
theorem dX9_addFrom_15 : decode cX9_addFrom 15 = .ok (.lstore 4, 2) := by decide +kernel
theorem dX9_addFrom_17 : decode cX9_addFrom 17 = .ok (.aload_n 0, 1) := by decide +kernel
theorem dX9_addFrom_18 : decode cX9_addFrom 18 = .ok (.iload_n 3, 1) := by decide +kernel
theorem dX9_addFrom_19 : decode cX9_addFrom 19 = .ok (.iload_n 2, 1) := by decide +kernel
theorem dX9_addFrom_20 : decode cX9_addFrom 20 = .ok (.isub, 1) := by decide +kernel
theorem dX9_addFrom_21 : decode cX9_addFrom 21 = .ok (.bipush 8, 2) := by decide +kernel
theorem dX9_addFrom_23 : decode cX9_addFrom 23 = .ok (.if_icmp .le 8, 3) := by decide +kernel
theorem dX9_addFrom_26 : decode cX9_addFrom 26 = .ok (.bipush 20, 2) := by decide +kernel
theorem dX9_addFrom_28 : decode cX9_addFrom 28 = .ok (.goto 9, 3) := by decide +kernel
theorem dX9_addFrom_31 : decode cX9_addFrom 31 = .ok (.aload_n 0, 1) := by decide +kernel
theorem dX9_addFrom_32 : decode cX9_addFrom 32 = .ok (.lload 4, 2) := by decide +kernel
theorem dX9_addFrom_34 : decode cX9_addFrom 34 = .ok (.invokevirtual 70, 3) := by decide +kernel
theorem dX9_addFrom_37 : decode cX9_addFrom 37 = .ok (.iload_n 2, 1) := by decide +kernel
theorem dX9_addFrom_38 : decode cX9_addFrom 38 = .ok (.lload 4, 2) := by decide +kernel
theorem dX9_addFrom_40 : decode cX9_addFrom 40 = .ok (.invokevirtual 51, 3) := by decide +kernel
theorem dX9_addFrom_43 : decode cX9_addFrom 43 = .ok (.goto 63, 3) := by decide +kernel
theorem dX9_addFrom_46 : decode cX9_addFrom 46 = .ok (.aload_n 1, 1) := by decide +kernel
theorem dX9_addFrom_47 : decode cX9_addFrom 47 = .ok (.iload_n 2, 1) := by decide +kernel
theorem dX9_addFrom_48 : decode cX9_addFrom 48 = .ok (.baload, 1) := by decide +kernel
theorem dX9_addFrom_49 : decode cX9_addFrom 49 = .ok (.invokestatic 74, 3) := by decide +kernel
theorem dX9_addFrom_52 : decode cX9_addFrom 52 = .ok (.ifCond .eq 31, 3) := by decide +kernel
theorem dX9_addFrom_55 : decode cX9_addFrom 55 = .ok (.aload_n 0, 1) := by decide +kernel
theorem dX9_addFrom_56 : decode cX9_addFrom 56 = .ok (.iload_n 3, 1) := by decide +kernel
theorem dX9_addFrom_57 : decode cX9_addFrom 57 = .ok (.iload_n 2, 1) := by decide +kernel
theorem dX9_addFrom_58 : decode cX9_addFrom 58 = .ok (.isub, 1) := by decide +kernel
theorem dX9_addFrom_59 : decode cX9_addFrom 59 = .ok (.iconst 4, 1) := by decide +kernel
theorem dX9_addFrom_60 : decode cX9_addFrom 60 = .ok (.if_icmp .le 8, 3) := by decide +kernel
theorem dX9_addFrom_63 : decode cX9_addFrom 63 = .ok (.bipush 20, 2) := by decide +kernel
theorem dX9_addFrom_65 : decode cX9_addFrom 65 = .ok (.goto 5, 3) := by decide +kernel
theorem dX9_addFrom_68 : decode cX9_addFrom 68 = .ok (.bipush 18, 2) := by decide +kernel
theorem dX9_addFrom_70 : decode cX9_addFrom 70 = .ok (.iload_n 2, 1) := by decide +kernel
theorem dX9_addFrom_71 : decode cX9_addFrom 71 = .ok (.aload_n 1, 1) := by decide +kernel
theorem dX9_addFrom_72 : decode cX9_addFrom 72 = .ok (.iload_n 2, 1) := by decide +kernel
theorem dX9_addFrom_73 : decode cX9_addFrom 73 = .ok (.iload_n 3, 1) := by decide +kernel
theorem dX9_addFrom_74 : decode cX9_addFrom 74 = .ok (.invokestatic 77, 3) := by decide +kernel
theorem dX9_addFrom_77 : decode cX9_addFrom 77 = .ok (.invokevirtual 51, 3) := by decide +kernel
theorem dX9_addFrom_80 : decode cX9_addFrom 80 = .ok (.goto 26, 3) := by decide +kernel
theorem dX9_addFrom_83 : decode cX9_addFrom 83 = .ok (.aload_n 0, 1) := by decide +kernel
theorem dX9_addFrom_84 : decode cX9_addFrom 84 = .ok (.aload_n 1, 1) := by decide +kernel
theorem dX9_addFrom_85 : decode cX9_addFrom 85 = .ok (.iload_n 2, 1) := by decide +kernel
theorem dX9_addFrom_86 : decode cX9_addFrom 86 = .ok (.baload, 1) := by decide +kernel
theorem dX9_addFrom_87 : decode cX9_addFrom 87 = .ok (.invokestatic 80, 3) := by decide +kernel
theorem dX9_addFrom_90 : decode cX9_addFrom 90 = .ok (.ifCond .eq 9, 3) := by decide +kernel
theorem dX9_addFrom_93 : decode cX9_addFrom 93 = .ok (.aload_n 1, 1) := by decide +kernel
theorem dX9_addFrom_94 : decode cX9_addFrom 94 = .ok (.iload_n 2, 1) := by decide +kernel
theorem dX9_addFrom_95 : decode cX9_addFrom 95 = .ok (.baload, 1) := by decide +kernel
theorem dX9_addFrom_96 : decode cX9_addFrom 96 = .ok (.goto 5, 3) := by decide +kernel
theorem dX9_addFrom_99 : decode cX9_addFrom 99 = .ok (.bipush 20, 2) := by decide +kernel
theorem dX9_addFrom_101 : decode cX9_addFrom 101 = .ok (.iload_n 2, 1) := by decide +kernel
theorem dX9_addFrom_102 : decode cX9_addFrom 102 = .ok (.lconst 0, 1) := by decide +kernel
theorem dX9_addFrom_103 : decode cX9_addFrom 103 = .ok (.invokevirtual 51, 3) := by decide +kernel
theorem dX9_addFrom_106 : decode cX9_addFrom 106 = .ok (.return_, 1) := by decide +kernel
def fX9_addFrom_70 (x1 x2 x3 s0 s1 : Int) (v : V_) : Option (Int × V_) :=
  bd_ (fX9_number x1 x2 x3 v) fun q14 =>
  bd_ (fX9_add s0 s1 x2 q14.1 q14.2) fun q15 =>
  some (0, q15.2)
def fX9_addFrom_37 (x2 x4 s0 s1 : Int) (v : V_) : Option (Int × V_) :=
  bd_ (fX9_add s0 s1 x2 x4 v) fun q19 =>
  some (0, q19.2)
def fX9_addFrom (x0 x1 x2 x3 : Int) (v : V_) : Option (Int × V_) :=
  ck_ (0 ≤ x2 ∧ x2 < 2000) (
  bd_ (fX9_isLetter (v x1 x2) v) fun q2 =>
  if q2.1 = 0 then (
    ck_ (0 ≤ x2 ∧ x2 < 2000) (
    bd_ (fX9_isDigit (q2.2 x1 x2) q2.2) fun q5 =>
    if q5.1 = 0 then (
      ck_ (0 ≤ x2 ∧ x2 < 2000) (
      bd_ (fX9_isSign (q5.2 x1 x2) q5.2) fun q8 =>
      if q8.1 = 0 then (
        bd_ (fX9_add x0 20 x2 0 q8.2) fun q10 =>
        some (0, q10.2))
      else (
        ck_ (0 ≤ x2 ∧ x2 < 2000) (
        bd_ (fX9_add x0 (q8.2 x1 x2) x2 0 q8.2) fun q12 =>
        some (0, q12.2)))))
    else (
      if (wr_ (x3 - x2)) ≤ 4 then (
        fX9_addFrom_70 x1 x2 x3 x0 18 q5.2)
      else (
        fX9_addFrom_70 x1 x2 x3 x0 20 q5.2))))
  else (
    bd_ (fX9_packedLetters x1 x2 x3 q2.2) fun q16 =>
    if (wr_ (x3 - x2)) ≤ 8 then (
      bd_ (fX9_sortOfWord x0 q16.1 q16.2) fun q18 =>
      fX9_addFrom_37 x2 q16.1 x0 q18.1 q18.2)
    else (
      fX9_addFrom_37 x2 q16.1 x0 20 q16.2)))
section
variable {E : En_} {p : Program} {l : Launch} {e : Env} {s : State} {m : MethodId} {args : Array Value} {below : List Frame} {meth : Method} {c : Code} {sz : Int}
theorem tX9_addFrom_70 (C : MC_ E p s m c cX9_addFrom 6 RX9) (hr : meth.sig.returnType = (none : Option FieldType)) (hlk : meth.locks = false) (hC : Cl_ E.2.2.2.2.2 sz) {out : Int × V_} (x1 x2 x3 s0 s1 : Int) (v : V_) (T1 : (E.2.2.2.2.2 x1 ∧ ty_ x1 = 21 ∧ ln_ x1 = 2000)) (S0 : (E.2.2.2.2.2 s0 ∧ ty_ s0 = 9 ∧ ln_ s0 = 0)) (h : fX9_addFrom_70 x1 x2 x3 s0 s1 v = some out) : G_ E p l e (rm_ 2 47) s m args below meth c 6 sz (Q_ E below args s sz sz 9 out.1 out.2) 70 [(1, (2, x1)), (2, (0, x2)), (3, (0, x3))] [(0, s1), (2, s0)] v sz := by
  rw [fX9_addFrom_70] at h
  refine g_iload_n C (f := 2) dX9_addFrom_70 1 rfl ?_
  refine g_aload_n C (f := 1) dX9_addFrom_71 0 rfl ?_
  refine g_iload_n C (f := 2) dX9_addFrom_72 1 rfl ?_
  refine g_iload_n C (f := 3) dX9_addFrom_73 2 rfl ?_
  obtain ⟨q14, eq14, h⟩ := bd_e h
  refine g_cS C [(2, x1), (0, x2), (0, x3)] (cX9_number_ok l hC T1 eq14) km_RX9_77 cs_X9_number rfl (by decide) rfl rfl (Nat.le_of_ble_eq_true rfl) dX9_addFrom_74 ?_
  obtain ⟨q15, eq15, h⟩ := bd_e h
  refine g_cV C [(0, s1), (0, x2), (1, q14.1)] (cX9_add_ok l hC S0 eq15) okX9 S0.2.1 (rg_ hC S0.1) km_RX9_51 cv_X9_add rfl (by decide) rfl rfl (Nat.le_of_ble_eq_true rfl) dX9_addFrom_77 ?_
  refine g_goto C 106 dX9_addFrom_80 rfl ?_
  cases h
  exact g_vret C dX9_addFrom_106 hr hlk
theorem tX9_addFrom_37 (C : MC_ E p s m c cX9_addFrom 6 RX9) (hr : meth.sig.returnType = (none : Option FieldType)) (hlk : meth.locks = false) (hC : Cl_ E.2.2.2.2.2 sz) {out : Int × V_} (x2 x4 s0 s1 : Int) (v : V_) (S0 : (E.2.2.2.2.2 s0 ∧ ty_ s0 = 9 ∧ ln_ s0 = 0)) (h : fX9_addFrom_37 x2 x4 s0 s1 v = some out) : G_ E p l e (rm_ 2 47) s m args below meth c 6 sz (Q_ E below args s sz sz 9 out.1 out.2) 37 [(2, (0, x2)), (4, (1, x4))] [(0, s1), (2, s0)] v sz := by
  rw [fX9_addFrom_37] at h
  refine g_iload_n C (f := 2) dX9_addFrom_37 0 rfl ?_
  refine g_lload C (i := 4) dX9_addFrom_38 1 rfl ?_
  obtain ⟨q19, eq19, h⟩ := bd_e h
  refine g_cV C [(0, s1), (0, x2), (1, x4)] (cX9_add_ok l hC S0 eq19) okX9 S0.2.1 (rg_ hC S0.1) km_RX9_51 cv_X9_add rfl (by decide) rfl rfl (Nat.le_of_ble_eq_true rfl) dX9_addFrom_40 ?_
  refine g_goto C 106 dX9_addFrom_43 rfl ?_
  cases h
  exact g_vret C dX9_addFrom_106 hr hlk
end
theorem cX9_addFrom_ok (l : Launch) {E : En_} {sz : Int} (hC : Cl_ E.2.2.2.2.2 sz) {x0 x1 x2 x3 : Int} {v : V_} {out : Int × V_} (T0 : (E.2.2.2.2.2 x0 ∧ ty_ x0 = 9 ∧ ln_ x0 = 0)) (T1 : (E.2.2.2.2.2 x1 ∧ ty_ x1 = 21 ∧ ln_ x1 = 2000)) (h : fX9_addFrom x0 x1 x2 x3 v = some out) : Met l yX9_addFrom [.code yX9_addFrom cX9_addFrom 6 (none : Option FieldType)] (rm_ 2 47) (Pc_ E sz v [(2, x0), (2, x1), (0, x2), (0, x3)]) (Qc_ E sz 9 out.1 out.2) 0 0 (fun q => E.1 < q) := by
  refine met_G0 RX9 (by decide +kernel) rfl (Nat.le_of_ble_eq_true rfl) ?_
  intro p e s m args below meth c C hr hlk
  rw [fX9_addFrom] at h
  refine g_aload_n C (f := 1) dX9_addFrom_0 1 rfl ?_
  refine g_iload_n C (f := 2) dX9_addFrom_1 2 rfl ?_
  obtain ⟨c1, h⟩ := ck_e h
  refine g_bald C 2000 dX9_addFrom_2 (rg_ hC T1.1) T1.2.1 T1.2.2 c1 ?_
  obtain ⟨q2, eq2, h⟩ := bd_e h
  refine g_cS C [(0, v x1 x2)] (cX9_isLetter_ok l hC eq2) km_RX9_62 cs_X9_isLetter rfl (by decide) rfl rfl (Nat.le_of_ble_eq_true rfl) dX9_addFrom_3 ?_
  refine g_if_eq C 46 dX9_addFrom_6 rfl (fun c3 => ?_) (fun c3 => ?_)
  · replace h := if_t h c3
    refine g_aload_n C (f := 1) dX9_addFrom_46 1 rfl ?_
    refine g_iload_n C (f := 2) dX9_addFrom_47 2 rfl ?_
    obtain ⟨c4, h⟩ := ck_e h
    refine g_bald C 2000 dX9_addFrom_48 (rg_ hC T1.1) T1.2.1 T1.2.2 c4 ?_
    obtain ⟨q5, eq5, h⟩ := bd_e h
    refine g_cS C [(0, q2.2 x1 x2)] (cX9_isDigit_ok l hC eq5) km_RX9_74 cs_X9_isDigit rfl (by decide) rfl rfl (Nat.le_of_ble_eq_true rfl) dX9_addFrom_49 ?_
    refine g_if_eq C 83 dX9_addFrom_52 rfl (fun c6 => ?_) (fun c6 => ?_)
    · replace h := if_t h c6
      refine g_aload_n C (f := 0) dX9_addFrom_83 0 rfl ?_
      refine g_aload_n C (f := 1) dX9_addFrom_84 1 rfl ?_
      refine g_iload_n C (f := 2) dX9_addFrom_85 2 rfl ?_
      obtain ⟨c7, h⟩ := ck_e h
      refine g_bald C 2000 dX9_addFrom_86 (rg_ hC T1.1) T1.2.1 T1.2.2 c7 ?_
      obtain ⟨q8, eq8, h⟩ := bd_e h
      refine g_cS C [(0, q5.2 x1 x2)] (cX9_isSign_ok l hC eq8) km_RX9_80 cs_X9_isSign rfl (by decide) rfl rfl (Nat.le_of_ble_eq_true rfl) dX9_addFrom_87 ?_
      refine g_if_eq C 99 dX9_addFrom_90 rfl (fun c9 => ?_) (fun c9 => ?_)
      · replace h := if_t h c9
        refine g_bipush C (n := 20) dX9_addFrom_99 (by decide) ?_
        refine g_iload_n C (f := 2) dX9_addFrom_101 2 rfl ?_
        refine g_lconst C (z := 0) dX9_addFrom_102 (by decide) ?_
        obtain ⟨q10, eq10, h⟩ := bd_e h
        refine g_cV C [(0, 20), (0, x2), (1, 0)] (cX9_add_ok l hC T0 eq10) okX9 T0.2.1 (rg_ hC T0.1) km_RX9_51 cv_X9_add rfl (by decide) rfl rfl (Nat.le_of_ble_eq_true rfl) dX9_addFrom_103 ?_
        cases h
        exact g_vret C dX9_addFrom_106 hr hlk
      · replace h := if_f h c9
        refine g_aload_n C (f := 1) dX9_addFrom_93 1 rfl ?_
        refine g_iload_n C (f := 2) dX9_addFrom_94 2 rfl ?_
        obtain ⟨c11, h⟩ := ck_e h
        refine g_bald C 2000 dX9_addFrom_95 (rg_ hC T1.1) T1.2.1 T1.2.2 c11 ?_
        refine g_goto C 101 dX9_addFrom_96 rfl ?_
        refine g_iload_n C (f := 2) dX9_addFrom_101 2 rfl ?_
        refine g_lconst C (z := 0) dX9_addFrom_102 (by decide) ?_
        obtain ⟨q12, eq12, h⟩ := bd_e h
        refine g_cV C [(0, q8.2 x1 x2), (0, x2), (1, 0)] (cX9_add_ok l hC T0 eq12) okX9 T0.2.1 (rg_ hC T0.1) km_RX9_51 cv_X9_add rfl (by decide) rfl rfl (Nat.le_of_ble_eq_true rfl) dX9_addFrom_103 ?_
        cases h
        exact g_vret C dX9_addFrom_106 hr hlk
    · replace h := if_f h c6
      refine g_aload_n C (f := 0) dX9_addFrom_55 0 rfl ?_
      refine g_iload_n C (f := 3) dX9_addFrom_56 3 rfl ?_
      refine g_iload_n C (f := 2) dX9_addFrom_57 2 rfl ?_
      refine g_isub C dX9_addFrom_58 ?_
      refine g_iconst C (n := 4) dX9_addFrom_59 (by decide) ?_
      refine g_icmp_le C 68 dX9_addFrom_60 rfl (fun c13 => ?_) (fun c13 => ?_)
      · replace h := if_t h c13
        refine g_bipush C (n := 18) dX9_addFrom_68 (by decide) ?_
        refine g_sub [1, 2, 3] rfl rfl ?_
        exact tX9_addFrom_70 C hr hlk hC _ _ _ _ _ _ T1 T0 h
      · replace h := if_f h c13
        refine g_bipush C (n := 20) dX9_addFrom_63 (by decide) ?_
        refine g_goto C 70 dX9_addFrom_65 rfl ?_
        refine g_sub [1, 2, 3] rfl rfl ?_
        exact tX9_addFrom_70 C hr hlk hC _ _ _ _ _ _ T1 T0 h
  · replace h := if_f h c3
    refine g_aload_n C (f := 1) dX9_addFrom_9 1 rfl ?_
    refine g_iload_n C (f := 2) dX9_addFrom_10 2 rfl ?_
    refine g_iload_n C (f := 3) dX9_addFrom_11 3 rfl ?_
    obtain ⟨q16, eq16, h⟩ := bd_e h
    refine g_cS C [(2, x1), (0, x2), (0, x3)] (cX9_packedLetters_ok l hC T1 eq16) km_RX9_66 cs_X9_packedLetters rfl (by decide) rfl rfl (Nat.le_of_ble_eq_true rfl) dX9_addFrom_12 ?_
    refine g_lstore C (i := 4) (ls' := [(4, (1, q16.1)), (0, (2, x0)), (1, (2, x1)), (2, (0, x2)), (3, (0, x3))]) dX9_addFrom_15 (by decide) rfl ?_
    refine g_aload_n C (f := 0) dX9_addFrom_17 1 rfl ?_
    refine g_iload_n C (f := 3) dX9_addFrom_18 4 rfl ?_
    refine g_iload_n C (f := 2) dX9_addFrom_19 3 rfl ?_
    refine g_isub C dX9_addFrom_20 ?_
    refine g_bipush C (n := 8) dX9_addFrom_21 (by decide) ?_
    refine g_icmp_le C 31 dX9_addFrom_23 rfl (fun c17 => ?_) (fun c17 => ?_)
    · replace h := if_t h c17
      refine g_aload_n C (f := 0) dX9_addFrom_31 1 rfl ?_
      refine g_lload C (i := 4) dX9_addFrom_32 0 rfl ?_
      obtain ⟨q18, eq18, h⟩ := bd_e h
      refine g_cV C [(1, q16.1)] (cX9_sortOfWord_ok l hC T0 eq18) okX9 T0.2.1 (rg_ hC T0.1) km_RX9_70 cv_X9_sortOfWord rfl (by decide) rfl rfl (Nat.le_of_ble_eq_true rfl) dX9_addFrom_34 ?_
      refine g_sub [3, 0] rfl rfl ?_
      exact tX9_addFrom_37 C hr hlk hC _ _ _ _ _  T0 h
    · replace h := if_f h c17
      refine g_bipush C (n := 20) dX9_addFrom_26 (by decide) ?_
      refine g_goto C 37 dX9_addFrom_28 rfl ?_
      refine g_sub [3, 0] rfl rfl ?_
      exact tX9_addFrom_37 C hr hlk hC _ _ _ _ _  T0 h
theorem dX9_isBlank_0 : decode cX9_isBlank 0 = .ok (.iload_n 0, 1) := by decide +kernel
theorem dX9_isBlank_1 : decode cX9_isBlank 1 = .ok (.bipush 9, 2) := by decide +kernel
theorem dX9_isBlank_3 : decode cX9_isBlank 3 = .ok (.if_icmp .eq 21, 3) := by decide +kernel
theorem dX9_isBlank_6 : decode cX9_isBlank 6 = .ok (.iload_n 0, 1) := by decide +kernel
theorem dX9_isBlank_7 : decode cX9_isBlank 7 = .ok (.bipush 10, 2) := by decide +kernel
theorem dX9_isBlank_9 : decode cX9_isBlank 9 = .ok (.if_icmp .eq 15, 3) := by decide +kernel
theorem dX9_isBlank_12 : decode cX9_isBlank 12 = .ok (.iload_n 0, 1) := by decide +kernel
theorem dX9_isBlank_13 : decode cX9_isBlank 13 = .ok (.bipush 13, 2) := by decide +kernel
theorem dX9_isBlank_15 : decode cX9_isBlank 15 = .ok (.if_icmp .eq 9, 3) := by decide +kernel
theorem dX9_isBlank_18 : decode cX9_isBlank 18 = .ok (.iload_n 0, 1) := by decide +kernel
theorem dX9_isBlank_19 : decode cX9_isBlank 19 = .ok (.bipush 32, 2) := by decide +kernel
theorem dX9_isBlank_21 : decode cX9_isBlank 21 = .ok (.if_icmp .ne 7, 3) := by decide +kernel
theorem dX9_isBlank_24 : decode cX9_isBlank 24 = .ok (.iconst 1, 1) := by decide +kernel
theorem dX9_isBlank_25 : decode cX9_isBlank 25 = .ok (.goto 4, 3) := by decide +kernel
theorem dX9_isBlank_28 : decode cX9_isBlank 28 = .ok (.iconst 0, 1) := by decide +kernel
theorem dX9_isBlank_29 : decode cX9_isBlank 29 = .ok (.ireturn, 1) := by decide +kernel
def fX9_isBlank (x0 : Int) (v : V_) : Option (Int × V_) :=
  if x0 = 9 then (
    some (1, v))
  else (
    if x0 = 10 then (
      some (1, v))
    else (
      if x0 = 13 then (
        some (1, v))
      else (
        if x0 = 32 then (
          some (1, v))
        else (
          some (0, v)))))
theorem cX9_isBlank_ok (l : Launch) {E : En_} {sz : Int} (hC : Cl_ E.2.2.2.2.2 sz) {x0 : Int} {v : V_} {out : Int × V_} (h : fX9_isBlank x0 v = some out) : Met l yX9_isBlank [.code yX9_isBlank cX9_isBlank 1 (some FieldType.boolean)] (rm_ 0 0) (Pc_ E sz v [(0, x0)]) (Qc_ E sz 0 out.1 out.2) 0 0 (fun q => E.1 < q) := by
  refine met_G0 RX9 (by decide +kernel) rfl (Nat.le_of_ble_eq_true rfl) ?_
  intro p e s m args below meth c C hr hlk
  rw [fX9_isBlank] at h
  refine g_iload_n C (f := 0) dX9_isBlank_0 0 rfl ?_
  refine g_bipush C (n := 9) dX9_isBlank_1 (by decide) ?_
  refine g_icmp_eq C 24 dX9_isBlank_3 rfl (fun c1 => ?_) (fun c1 => ?_)
  · replace h := if_t h c1
    refine g_iconst C (n := 1) dX9_isBlank_24 (by decide) ?_
    refine g_goto C 29 dX9_isBlank_25 rfl ?_
    cases h
    exact g_zret C dX9_isBlank_29 hr hlk (Or.inr rfl)
  · replace h := if_f h c1
    refine g_iload_n C (f := 0) dX9_isBlank_6 0 rfl ?_
    refine g_bipush C (n := 10) dX9_isBlank_7 (by decide) ?_
    refine g_icmp_eq C 24 dX9_isBlank_9 rfl (fun c2 => ?_) (fun c2 => ?_)
    · replace h := if_t h c2
      refine g_iconst C (n := 1) dX9_isBlank_24 (by decide) ?_
      refine g_goto C 29 dX9_isBlank_25 rfl ?_
      cases h
      exact g_zret C dX9_isBlank_29 hr hlk (Or.inr rfl)
    · replace h := if_f h c2
      refine g_iload_n C (f := 0) dX9_isBlank_12 0 rfl ?_
      refine g_bipush C (n := 13) dX9_isBlank_13 (by decide) ?_
      refine g_icmp_eq C 24 dX9_isBlank_15 rfl (fun c3 => ?_) (fun c3 => ?_)
      · replace h := if_t h c3
        refine g_iconst C (n := 1) dX9_isBlank_24 (by decide) ?_
        refine g_goto C 29 dX9_isBlank_25 rfl ?_
        cases h
        exact g_zret C dX9_isBlank_29 hr hlk (Or.inr rfl)
      · replace h := if_f h c3
        refine g_iload_n C (f := 0) dX9_isBlank_18 0 rfl ?_
        refine g_bipush C (n := 32) dX9_isBlank_19 (by decide) ?_
        refine g_icmp_ne C 28 dX9_isBlank_21 rfl (fun c4 => ?_) (fun c4 => ?_)
        · replace h := if_f h c4
          refine g_iconst C (n := 0) dX9_isBlank_28 (by decide) ?_
          cases h
          exact g_zret C dX9_isBlank_29 hr hlk (Or.inl rfl)
        · replace h := if_t h c4
          refine g_iconst C (n := 1) dX9_isBlank_24 (by decide) ?_
          refine g_goto C 29 dX9_isBlank_25 rfl ?_
          cases h
          exact g_zret C dX9_isBlank_29 hr hlk (Or.inr rfl)
theorem dX9_behindBlanks_0 : decode cX9_behindBlanks 0 = .ok (.iload_n 2, 1) := by decide +kernel
theorem dX9_behindBlanks_1 : decode cX9_behindBlanks 1 = .ok (.istore_n 3, 1) := by decide +kernel
theorem dX9_behindBlanks_2 : decode cX9_behindBlanks 2 = .ok (.iload_n 3, 1) := by decide +kernel
theorem dX9_behindBlanks_3 : decode cX9_behindBlanks 3 = .ok (.iload_n 1, 1) := by decide +kernel
theorem dX9_behindBlanks_4 : decode cX9_behindBlanks 4 = .ok (.if_icmp .ge 18, 3) := by decide +kernel
theorem dX9_behindBlanks_7 : decode cX9_behindBlanks 7 = .ok (.aload_n 0, 1) := by decide +kernel
theorem dX9_behindBlanks_8 : decode cX9_behindBlanks 8 = .ok (.iload_n 3, 1) := by decide +kernel
theorem dX9_behindBlanks_9 : decode cX9_behindBlanks 9 = .ok (.baload, 1) := by decide +kernel
theorem dX9_behindBlanks_10 : decode cX9_behindBlanks 10 = .ok (.invokestatic 83, 3) := by decide +kernel
theorem dX9_behindBlanks_13 : decode cX9_behindBlanks 13 = .ok (.ifCond .eq 9, 3) := by decide +kernel
theorem dX9_behindBlanks_16 : decode cX9_behindBlanks 16 = .ok (.iinc 3 1, 3) := by decide +kernel
theorem dX9_behindBlanks_19 : decode cX9_behindBlanks 19 = .ok (.goto (-17), 3) := by decide +kernel
theorem dX9_behindBlanks_22 : decode cX9_behindBlanks 22 = .ok (.iload_n 3, 1) := by decide +kernel
theorem dX9_behindBlanks_23 : decode cX9_behindBlanks 23 = .ok (.ireturn, 1) := by decide +kernel
def fX9_behindBlanks_2 : Nat → Int → Int → Int → V_ → Option (Int × V_)
  | 0, _, _, _, _ => none
  | n + 1, x0, x1, x3, v =>
    if x1 ≤ x3 then (
      some (x3, v))
    else (
      ck_ (0 ≤ x3 ∧ x3 < 2000) (
      bd_ (fX9_isBlank (v x0 x3) v) fun q3 =>
      if q3.1 = 0 then (
        some (x3, q3.2))
      else (
        lt_ (wr_ (x3 + 1)) fun y5 =>
        (fX9_behindBlanks_2 n) x0 x1 y5 q3.2)))
def fX9_behindBlanks (x0 x1 x2 : Int) (v : V_) : Option (Int × V_) :=
  fX9_behindBlanks_2 fu_ x0 x1 x2 v
section
variable {E : En_} {p : Program} {l : Launch} {e : Env} {s : State} {m : MethodId} {args : Array Value} {below : List Frame} {meth : Method} {c : Code} {sz : Int}
theorem tX9_behindBlanks_2 (C : MC_ E p s m c cX9_behindBlanks 4 RX9) (hr : meth.sig.returnType = (some FieldType.int)) (hlk : meth.locks = false) (hC : Cl_ E.2.2.2.2.2 sz) {out : Int × V_} : ∀ (n : Nat) (x0 x1 x3 : Int) (v : V_), (E.2.2.2.2.2 x0 ∧ ty_ x0 = 21 ∧ ln_ x0 = 2000) → fX9_behindBlanks_2 n x0 x1 x3 v = some out → G_ E p l e (rm_ 1 20) s m args below meth c 4 sz (Q_ E below args s sz sz 0 out.1 out.2) 2 [(0, (2, x0)), (1, (0, x1)), (3, (0, x3))] [] v sz := by
  intro n
  induction n with
  | zero =>
    intro x0 x1 x3 v T0 h
    cases h
  | succ n H_2 =>
    intro x0 x1 x3 v T0 h
    rw [fX9_behindBlanks_2] at h
    refine g_iload_n C (f := 3) dX9_behindBlanks_2 2 rfl ?_
    refine g_iload_n C (f := 1) dX9_behindBlanks_3 1 rfl ?_
    refine g_icmp_ge C 22 dX9_behindBlanks_4 rfl (fun c1 => ?_) (fun c1 => ?_)
    · replace h := if_t h c1
      refine g_iload_n C (f := 3) dX9_behindBlanks_22 2 rfl ?_
      cases h
      exact g_iret C dX9_behindBlanks_23 hr hlk
    · replace h := if_f h c1
      refine g_aload_n C (f := 0) dX9_behindBlanks_7 0 rfl ?_
      refine g_iload_n C (f := 3) dX9_behindBlanks_8 2 rfl ?_
      obtain ⟨c2, h⟩ := ck_e h
      refine g_bald C 2000 dX9_behindBlanks_9 (rg_ hC T0.1) T0.2.1 T0.2.2 c2 ?_
      obtain ⟨q3, eq3, h⟩ := bd_e h
      refine g_cS C [(0, v x0 x3)] (cX9_isBlank_ok l hC eq3) km_RX9_83 cs_X9_isBlank rfl (by decide) rfl rfl (Nat.le_of_ble_eq_true rfl) dX9_behindBlanks_10 ?_
      refine g_if_eq C 22 dX9_behindBlanks_13 rfl (fun c4 => ?_) (fun c4 => ?_)
      · replace h := if_t h c4
        refine g_iload_n C (f := 3) dX9_behindBlanks_22 2 rfl ?_
        cases h
        exact g_iret C dX9_behindBlanks_23 hr hlk
      · replace h := if_f h c4
        obtain ⟨y5, ey5, h⟩ := lt_e h
        refine g_iincx C (ls' := [(3, (0, y5)), (0, (2, x0)), (1, (0, x1))]) ey5 dX9_behindBlanks_16 2 rfl (by decide) (by decide) rfl ?_
        refine g_goto C 2 dX9_behindBlanks_19 rfl ?_
        refine g_sub [1, 2, 0] rfl rfl ?_
        exact H_2 _ _ _ _ T0 h
end
theorem cX9_behindBlanks_ok (l : Launch) {E : En_} {sz : Int} (hC : Cl_ E.2.2.2.2.2 sz) {x0 x1 x2 : Int} {v : V_} {out : Int × V_} (T0 : (E.2.2.2.2.2 x0 ∧ ty_ x0 = 21 ∧ ln_ x0 = 2000)) (h : fX9_behindBlanks x0 x1 x2 v = some out) : Met l yX9_behindBlanks [.code yX9_behindBlanks cX9_behindBlanks 4 (some FieldType.int)] (rm_ 1 20) (Pc_ E sz v [(2, x0), (0, x1), (0, x2)]) (Qc_ E sz 0 out.1 out.2) 0 0 (fun q => E.1 < q) := by
  refine met_G0 RX9 (by decide +kernel) rfl (Nat.le_of_ble_eq_true rfl) ?_
  intro p e s m args below meth c C hr hlk
  rw [fX9_behindBlanks] at h
  refine g_iload_n C (f := 2) dX9_behindBlanks_0 2 rfl ?_
  refine g_istore_n C (f := 3) (ls' := [(3, (0, x2)), (0, (2, x0)), (1, (0, x1)), (2, (0, x2))]) dX9_behindBlanks_1 (by decide) rfl ?_
  refine g_sub [1, 2, 0] rfl rfl ?_
  exact tX9_behindBlanks_2 C hr hlk hC _ _ _ _ _ T0 h
theorem dX9_endOfToken_0 : decode cX9_endOfToken 0 = .ok (.aload_n 0, 1) := by decide +kernel
theorem dX9_endOfToken_1 : decode cX9_endOfToken 1 = .ok (.iload_n 2, 1) := by decide +kernel
theorem dX9_endOfToken_2 : decode cX9_endOfToken 2 = .ok (.baload, 1) := by decide +kernel
theorem dX9_endOfToken_3 : decode cX9_endOfToken 3 = .ok (.invokestatic 62, 3) := by decide +kernel
theorem dX9_endOfToken_6 : decode cX9_endOfToken 6 = .ok (.istore_n 3, 1) := by decide +kernel
theorem dX9_endOfToken_7 : decode cX9_endOfToken 7 = .ok (.aload_n 0, 1) := by decide +kernel
theorem dX9_endOfToken_8 : decode cX9_endOfToken 8 = .ok (.iload_n 2, 1) := by decide +kernel
theorem dX9_endOfToken_9 : decode cX9_endOfToken 9 = .ok (.baload, 1) := by decide +kernel
theorem dX9_endOfToken_10 : decode cX9_endOfToken 10 = .ok (.invokestatic 74, 3) := by decide +kernel
theorem dX9_endOfToken_13 : decode cX9_endOfToken 13 = .ok (.istore 4, 2) := by decide +kernel
theorem dX9_endOfToken_15 : decode cX9_endOfToken 15 = .ok (.iload_n 2, 1) := by decide +kernel
theorem dX9_endOfToken_16 : decode cX9_endOfToken 16 = .ok (.iconst 1, 1) := by decide +kernel
theorem dX9_endOfToken_17 : decode cX9_endOfToken 17 = .ok (.iadd, 1) := by decide +kernel
theorem dX9_endOfToken_18 : decode cX9_endOfToken 18 = .ok (.istore 5, 2) := by decide +kernel
theorem dX9_endOfToken_20 : decode cX9_endOfToken 20 = .ok (.iload 5, 2) := by decide +kernel
theorem dX9_endOfToken_22 : decode cX9_endOfToken 22 = .ok (.iload_n 1, 1) := by decide +kernel
theorem dX9_endOfToken_23 : decode cX9_endOfToken 23 = .ok (.if_icmp .ge 38, 3) := by decide +kernel
theorem dX9_endOfToken_26 : decode cX9_endOfToken 26 = .ok (.iload_n 3, 1) := by decide +kernel
theorem dX9_endOfToken_27 : decode cX9_endOfToken 27 = .ok (.ifCond .eq 13, 3) := by decide +kernel
theorem dX9_endOfToken_30 : decode cX9_endOfToken 30 = .ok (.aload_n 0, 1) := by decide +kernel
theorem dX9_endOfToken_31 : decode cX9_endOfToken 31 = .ok (.iload 5, 2) := by decide +kernel
theorem dX9_endOfToken_33 : decode cX9_endOfToken 33 = .ok (.baload, 1) := by decide +kernel
theorem dX9_endOfToken_34 : decode cX9_endOfToken 34 = .ok (.invokestatic 62, 3) := by decide +kernel
theorem dX9_endOfToken_37 : decode cX9_endOfToken 37 = .ok (.ifCond .ne 18, 3) := by decide +kernel
theorem dX9_endOfToken_40 : decode cX9_endOfToken 40 = .ok (.iload 4, 2) := by decide +kernel
theorem dX9_endOfToken_42 : decode cX9_endOfToken 42 = .ok (.ifCond .eq 19, 3) := by decide +kernel
theorem dX9_endOfToken_45 : decode cX9_endOfToken 45 = .ok (.aload_n 0, 1) := by decide +kernel
theorem dX9_endOfToken_46 : decode cX9_endOfToken 46 = .ok (.iload 5, 2) := by decide +kernel
theorem dX9_endOfToken_48 : decode cX9_endOfToken 48 = .ok (.baload, 1) := by decide +kernel
theorem dX9_endOfToken_49 : decode cX9_endOfToken 49 = .ok (.invokestatic 74, 3) := by decide +kernel
theorem dX9_endOfToken_52 : decode cX9_endOfToken 52 = .ok (.ifCond .eq 9, 3) := by decide +kernel
theorem dX9_endOfToken_55 : decode cX9_endOfToken 55 = .ok (.iinc 5 1, 3) := by decide +kernel
theorem dX9_endOfToken_58 : decode cX9_endOfToken 58 = .ok (.goto (-38), 3) := by decide +kernel
theorem dX9_endOfToken_61 : decode cX9_endOfToken 61 = .ok (.iload 5, 2) := by decide +kernel
theorem dX9_endOfToken_63 : decode cX9_endOfToken 63 = .ok (.ireturn, 1) := by decide +kernel
def fX9_endOfToken_40 (k20 : Int → Int → Int → Int → Int → V_ → Option (Int × V_)) (x0 x1 x3 x4 x5 : Int) (v : V_) : Option (Int × V_) :=
  if x4 = 0 then (
    some (x5, v))
  else (
    ck_ (0 ≤ x5 ∧ x5 < 2000) (
    bd_ (fX9_isDigit (v x0 x5) v) fun q10 =>
    if q10.1 = 0 then (
      some (x5, q10.2))
    else (
      lt_ (wr_ (x5 + 1)) fun y12 =>
      k20 x0 x1 x3 x4 y12 q10.2)))
def fX9_endOfToken_20 : Nat → Int → Int → Int → Int → Int → V_ → Option (Int × V_)
  | 0, _, _, _, _, _, _ => none
  | n + 1, x0, x1, x3, x4, x5, v =>
    if x1 ≤ x5 then (
      some (x5, v))
    else (
      if x3 = 0 then (
        fX9_endOfToken_40 (fX9_endOfToken_20 n) x0 x1 x3 x4 x5 v)
      else (
        ck_ (0 ≤ x5 ∧ x5 < 2000) (
        bd_ (fX9_isLetter (v x0 x5) v) fun q14 =>
        if q14.1 = 0 then (
          fX9_endOfToken_40 (fX9_endOfToken_20 n) x0 x1 x3 x4 x5 q14.2)
        else (
          lt_ (wr_ (x5 + 1)) fun y16 =>
          (fX9_endOfToken_20 n) x0 x1 x3 x4 y16 q14.2))))
def fX9_endOfToken (x0 x1 x2 : Int) (v : V_) : Option (Int × V_) :=
  ck_ (0 ≤ x2 ∧ x2 < 2000) (
  bd_ (fX9_isLetter (v x0 x2) v) fun q2 =>
  ck_ (0 ≤ x2 ∧ x2 < 2000) (
  bd_ (fX9_isDigit (q2.2 x0 x2) q2.2) fun q4 =>
  lt_ (wr_ (x2 + 1)) fun y5 =>
  fX9_endOfToken_20 fu_ x0 x1 q2.1 q4.1 y5 q4.2))
section
variable {E : En_} {p : Program} {l : Launch} {e : Env} {s : State} {m : MethodId} {args : Array Value} {below : List Frame} {meth : Method} {c : Code} {sz : Int}
theorem tX9_endOfToken_40 (C : MC_ E p s m c cX9_endOfToken 6 RX9) (hr : meth.sig.returnType = (some FieldType.int)) (hlk : meth.locks = false) (hC : Cl_ E.2.2.2.2.2 sz) {out : Int × V_} (k20 : Int → Int → Int → Int → Int → V_ → Option (Int × V_)) (H_20 : ∀ (x0 x1 x3 x4 x5 : Int) (v : V_), (E.2.2.2.2.2 x0 ∧ ty_ x0 = 21 ∧ ln_ x0 = 2000) → k20 x0 x1 x3 x4 x5 v = some out → G_ E p l e (rm_ 1 20) s m args below meth c 6 sz (Q_ E below args s sz sz 0 out.1 out.2) 20 [(0, (2, x0)), (1, (0, x1)), (3, (0, x3)), (4, (0, x4)), (5, (0, x5))] [] v sz) (x0 x1 x3 x4 x5 : Int) (v : V_) (T0 : (E.2.2.2.2.2 x0 ∧ ty_ x0 = 21 ∧ ln_ x0 = 2000)) (h : fX9_endOfToken_40 k20 x0 x1 x3 x4 x5 v = some out) : G_ E p l e (rm_ 1 20) s m args below meth c 6 sz (Q_ E below args s sz sz 0 out.1 out.2) 40 [(0, (2, x0)), (1, (0, x1)), (3, (0, x3)), (4, (0, x4)), (5, (0, x5))] [] v sz := by
  rw [fX9_endOfToken_40] at h
  refine g_iload C (i := 4) dX9_endOfToken_40 3 rfl ?_
  refine g_if_eq C 61 dX9_endOfToken_42 rfl (fun c8 => ?_) (fun c8 => ?_)
  · replace h := if_t h c8
    refine g_iload C (i := 5) dX9_endOfToken_61 4 rfl ?_
    cases h
    exact g_iret C dX9_endOfToken_63 hr hlk
  · replace h := if_f h c8
    refine g_aload_n C (f := 0) dX9_endOfToken_45 0 rfl ?_
    refine g_iload C (i := 5) dX9_endOfToken_46 4 rfl ?_
    obtain ⟨c9, h⟩ := ck_e h
    refine g_bald C 2000 dX9_endOfToken_48 (rg_ hC T0.1) T0.2.1 T0.2.2 c9 ?_
    obtain ⟨q10, eq10, h⟩ := bd_e h
    refine g_cS C [(0, v x0 x5)] (cX9_isDigit_ok l hC eq10) km_RX9_74 cs_X9_isDigit rfl (by decide) rfl rfl (Nat.le_of_ble_eq_true rfl) dX9_endOfToken_49 ?_
    refine g_if_eq C 61 dX9_endOfToken_52 rfl (fun c11 => ?_) (fun c11 => ?_)
    · replace h := if_t h c11
      refine g_iload C (i := 5) dX9_endOfToken_61 4 rfl ?_
      cases h
      exact g_iret C dX9_endOfToken_63 hr hlk
    · replace h := if_f h c11
      obtain ⟨y12, ey12, h⟩ := lt_e h
      refine g_iincx C (ls' := [(5, (0, y12)), (0, (2, x0)), (1, (0, x1)), (3, (0, x3)), (4, (0, x4))]) ey12 dX9_endOfToken_55 4 rfl (by decide) (by decide) rfl ?_
      refine g_goto C 20 dX9_endOfToken_58 rfl ?_
      refine g_sub [1, 2, 3, 4, 0] rfl rfl ?_
      exact H_20 _ _ _ _ _ _ T0 h
theorem tX9_endOfToken_20 (C : MC_ E p s m c cX9_endOfToken 6 RX9) (hr : meth.sig.returnType = (some FieldType.int)) (hlk : meth.locks = false) (hC : Cl_ E.2.2.2.2.2 sz) {out : Int × V_} : ∀ (n : Nat) (x0 x1 x3 x4 x5 : Int) (v : V_), (E.2.2.2.2.2 x0 ∧ ty_ x0 = 21 ∧ ln_ x0 = 2000) → fX9_endOfToken_20 n x0 x1 x3 x4 x5 v = some out → G_ E p l e (rm_ 1 20) s m args below meth c 6 sz (Q_ E below args s sz sz 0 out.1 out.2) 20 [(0, (2, x0)), (1, (0, x1)), (3, (0, x3)), (4, (0, x4)), (5, (0, x5))] [] v sz := by
  intro n
  induction n with
  | zero =>
    intro x0 x1 x3 x4 x5 v T0 h
    cases h
  | succ n H_20 =>
    intro x0 x1 x3 x4 x5 v T0 h
    rw [fX9_endOfToken_20] at h
    refine g_iload C (i := 5) dX9_endOfToken_20 4 rfl ?_
    refine g_iload_n C (f := 1) dX9_endOfToken_22 1 rfl ?_
    refine g_icmp_ge C 61 dX9_endOfToken_23 rfl (fun c6 => ?_) (fun c6 => ?_)
    · replace h := if_t h c6
      refine g_iload C (i := 5) dX9_endOfToken_61 4 rfl ?_
      cases h
      exact g_iret C dX9_endOfToken_63 hr hlk
    · replace h := if_f h c6
      refine g_iload_n C (f := 3) dX9_endOfToken_26 2 rfl ?_
      refine g_if_eq C 40 dX9_endOfToken_27 rfl (fun c7 => ?_) (fun c7 => ?_)
      · replace h := if_t h c7
        refine g_sub [0, 1, 2, 3, 4] rfl rfl ?_
        exact tX9_endOfToken_40 C hr hlk hC _ H_20 _ _ _ _ _ _ T0 h
      · replace h := if_f h c7
        refine g_aload_n C (f := 0) dX9_endOfToken_30 0 rfl ?_
        refine g_iload C (i := 5) dX9_endOfToken_31 4 rfl ?_
        obtain ⟨c13, h⟩ := ck_e h
        refine g_bald C 2000 dX9_endOfToken_33 (rg_ hC T0.1) T0.2.1 T0.2.2 c13 ?_
        obtain ⟨q14, eq14, h⟩ := bd_e h
        refine g_cS C [(0, v x0 x5)] (cX9_isLetter_ok l hC eq14) km_RX9_62 cs_X9_isLetter rfl (by decide) rfl rfl (Nat.le_of_ble_eq_true rfl) dX9_endOfToken_34 ?_
        refine g_if_ne C 55 dX9_endOfToken_37 rfl (fun c15 => ?_) (fun c15 => ?_)
        · replace h := if_f h c15
          obtain ⟨y16, ey16, h⟩ := lt_e h
          refine g_iincx C (ls' := [(5, (0, y16)), (0, (2, x0)), (1, (0, x1)), (3, (0, x3)), (4, (0, x4))]) ey16 dX9_endOfToken_55 4 rfl (by decide) (by decide) rfl ?_
          refine g_goto C 20 dX9_endOfToken_58 rfl ?_
          refine g_sub [1, 2, 3, 4, 0] rfl rfl ?_
          exact H_20 _ _ _ _ _ _ T0 h
        · replace h := if_t h c15
          refine g_sub [0, 1, 2, 3, 4] rfl rfl ?_
          exact tX9_endOfToken_40 C hr hlk hC _ H_20 _ _ _ _ _ _ T0 h
end
theorem cX9_endOfToken_ok (l : Launch) {E : En_} {sz : Int} (hC : Cl_ E.2.2.2.2.2 sz) {x0 x1 x2 : Int} {v : V_} {out : Int × V_} (T0 : (E.2.2.2.2.2 x0 ∧ ty_ x0 = 21 ∧ ln_ x0 = 2000)) (h : fX9_endOfToken x0 x1 x2 v = some out) : Met l yX9_endOfToken [.code yX9_endOfToken cX9_endOfToken 6 (some FieldType.int)] (rm_ 1 20) (Pc_ E sz v [(2, x0), (0, x1), (0, x2)]) (Qc_ E sz 0 out.1 out.2) 0 0 (fun q => E.1 < q) := by
  refine met_G0 RX9 (by decide +kernel) rfl (Nat.le_of_ble_eq_true rfl) ?_
  intro p e s m args below meth c C hr hlk
  rw [fX9_endOfToken] at h
  refine g_aload_n C (f := 0) dX9_endOfToken_0 0 rfl ?_
  refine g_iload_n C (f := 2) dX9_endOfToken_1 2 rfl ?_
  obtain ⟨c1, h⟩ := ck_e h
  refine g_bald C 2000 dX9_endOfToken_2 (rg_ hC T0.1) T0.2.1 T0.2.2 c1 ?_
  obtain ⟨q2, eq2, h⟩ := bd_e h
  refine g_cS C [(0, v x0 x2)] (cX9_isLetter_ok l hC eq2) km_RX9_62 cs_X9_isLetter rfl (by decide) rfl rfl (Nat.le_of_ble_eq_true rfl) dX9_endOfToken_3 ?_
  refine g_istore_n C (f := 3) (ls' := [(3, (0, q2.1)), (0, (2, x0)), (1, (0, x1)), (2, (0, x2))]) dX9_endOfToken_6 (by decide) rfl ?_
  refine g_aload_n C (f := 0) dX9_endOfToken_7 1 rfl ?_
  refine g_iload_n C (f := 2) dX9_endOfToken_8 3 rfl ?_
  obtain ⟨c3, h⟩ := ck_e h
  refine g_bald C 2000 dX9_endOfToken_9 (rg_ hC T0.1) T0.2.1 T0.2.2 c3 ?_
  obtain ⟨q4, eq4, h⟩ := bd_e h
  refine g_cS C [(0, q2.2 x0 x2)] (cX9_isDigit_ok l hC eq4) km_RX9_74 cs_X9_isDigit rfl (by decide) rfl rfl (Nat.le_of_ble_eq_true rfl) dX9_endOfToken_10 ?_
  refine g_istore C (i := 4) (ls' := [(4, (0, q4.1)), (3, (0, q2.1)), (0, (2, x0)), (1, (0, x1)), (2, (0, x2))]) dX9_endOfToken_13 (by decide) rfl ?_
  refine g_iload_n C (f := 2) dX9_endOfToken_15 4 rfl ?_
  refine g_iconst C (n := 1) dX9_endOfToken_16 (by decide) ?_
  refine g_iadd C dX9_endOfToken_17 ?_
  obtain ⟨y5, ey5, h⟩ := lt_e h
  refine g_set C ey5 ?_
  refine g_istore C (i := 5) (ls' := [(5, (0, y5)), (4, (0, q4.1)), (3, (0, q2.1)), (0, (2, x0)), (1, (0, x1)), (2, (0, x2))]) dX9_endOfToken_18 (by decide) rfl ?_
  refine g_sub [3, 4, 2, 1, 0] rfl rfl ?_
  exact tX9_endOfToken_20 C hr hlk hC _ _ _ _ _ _ _ T0 h
theorem dX9_scan_0 : decode cX9_scan 0 = .ok (.aload_n 0, 1) := by decide +kernel
theorem dX9_scan_1 : decode cX9_scan 1 = .ok (.iconst 0, 1) := by decide +kernel
theorem dX9_scan_2 : decode cX9_scan 2 = .ok (.putfield 43, 3) := by decide +kernel
theorem dX9_scan_5 : decode cX9_scan 5 = .ok (.iconst 0, 1) := by decide +kernel
theorem dX9_scan_6 : decode cX9_scan 6 = .ok (.istore_n 3, 1) := by decide +kernel
theorem dX9_scan_7 : decode cX9_scan 7 = .ok (.iconst 1, 1) := by decide +kernel
theorem dX9_scan_8 : decode cX9_scan 8 = .ok (.istore 4, 2) := by decide +kernel
theorem dX9_scan_10 : decode cX9_scan 10 = .ok (.iconst 0, 1) := by decide +kernel
theorem dX9_scan_11 : decode cX9_scan 11 = .ok (.istore 5, 2) := by decide +kernel
theorem dX9_scan_13 : decode cX9_scan 13 = .ok (.iload 4, 2) := by decide +kernel
theorem dX9_scan_15 : decode cX9_scan 15 = .ok (.ifCond .eq 85, 3) := by decide +kernel
theorem dX9_scan_18 : decode cX9_scan 18 = .ok (.iload 5, 2) := by decide +kernel
theorem dX9_scan_20 : decode cX9_scan 20 = .ok (.sipush 400, 3) := by decide +kernel
theorem dX9_scan_23 : decode cX9_scan 23 = .ok (.if_icmp .gt 77, 3) := by decide +kernel
theorem dX9_scan_26 : decode cX9_scan 26 = .ok (.aload_n 1, 1) := by decide +kernel
theorem dX9_scan_27 : decode cX9_scan 27 = .ok (.iload_n 2, 1) := by decide +kernel
theorem dX9_scan_28 : decode cX9_scan 28 = .ok (.iload_n 3, 1) := by decide +kernel
theorem dX9_scan_29 : decode cX9_scan 29 = .ok (.invokestatic 47, 3) := by decide +kernel
theorem dX9_scan_32 : decode cX9_scan 32 = .ok (.istore_n 3, 1) := by decide +kernel
theorem dX9_scan_33 : decode cX9_scan 33 = .ok (.iload_n 3, 1) := by decide +kernel
theorem dX9_scan_34 : decode cX9_scan 34 = .ok (.iload_n 2, 1) := by decide +kernel
theorem dX9_scan_35 : decode cX9_scan 35 = .ok (.if_icmp .lt 17, 3) := by decide +kernel
theorem dX9_scan_38 : decode cX9_scan 38 = .ok (.aload_n 0, 1) := by decide +kernel
theorem dX9_scan_39 : decode cX9_scan 39 = .ok (.bipush 19, 2) := by decide +kernel
theorem dX9_scan_41 : decode cX9_scan 41 = .ok (.iload_n 2, 1) := by decide +kernel
theorem dX9_scan_42 : decode cX9_scan 42 = .ok (.lconst 0, 1) := by decide +kernel
theorem dX9_scan_43 : decode cX9_scan 43 = .ok (.invokevirtual 51, 3) := by decide +kernel
theorem dX9_scan_46 : decode cX9_scan 46 = .ok (.iconst 0, 1) := by decide +kernel
theorem dX9_scan_47 : decode cX9_scan 47 = .ok (.istore 4, 2) := by decide +kernel
theorem dX9_scan_49 : decode cX9_scan 49 = .ok (.goto 45, 3) := by decide +kernel
theorem dX9_scan_52 : decode cX9_scan 52 = .ok (.aload_n 1, 1) := by decide +kernel
theorem dX9_scan_53 : decode cX9_scan 53 = .ok (.iload_n 2, 1) := by decide +kernel
theorem dX9_scan_54 : decode cX9_scan 54 = .ok (.iload_n 3, 1) := by decide +kernel
theorem dX9_scan_55 : decode cX9_scan 55 = .ok (.invokestatic 55, 3) := by decide +kernel
theorem dX9_scan_58 : decode cX9_scan 58 = .ok (.istore 6, 2) := by decide +kernel
theorem dX9_scan_60 : decode cX9_scan 60 = .ok (.aload_n 0, 1) := by decide +kernel
theorem dX9_scan_61 : decode cX9_scan 61 = .ok (.aload_n 1, 1) := by decide +kernel
theorem dX9_scan_62 : decode cX9_scan 62 = .ok (.iload_n 3, 1) := by decide +kernel
theorem dX9_scan_63 : decode cX9_scan 63 = .ok (.iload 6, 2) := by decide +kernel
theorem dX9_scan_65 : decode cX9_scan 65 = .ok (.invokevirtual 58, 3) := by decide +kernel
theorem dX9_scan_68 : decode cX9_scan 68 = .ok (.aload_n 0, 1) := by decide +kernel
theorem dX9_scan_69 : decode cX9_scan 69 = .ok (.getfield 15, 3) := by decide +kernel
theorem dX9_scan_72 : decode cX9_scan 72 = .ok (.aload_n 0, 1) := by decide +kernel
theorem dX9_scan_73 : decode cX9_scan 73 = .ok (.getfield 43, 3) := by decide +kernel
theorem dX9_scan_76 : decode cX9_scan 76 = .ok (.iconst 1, 1) := by decide +kernel
theorem dX9_scan_77 : decode cX9_scan 77 = .ok (.isub, 1) := by decide +kernel
theorem dX9_scan_78 : decode cX9_scan 78 = .ok (.iaload, 1) := by decide +kernel
theorem dX9_scan_79 : decode cX9_scan 79 = .ok (.bipush 20, 2) := by decide +kernel
theorem dX9_scan_81 : decode cX9_scan 81 = .ok (.if_icmp .eq 7, 3) := by decide +kernel
theorem dX9_scan_84 : decode cX9_scan 84 = .ok (.iconst 1, 1) := by decide +kernel
theorem dX9_scan_85 : decode cX9_scan 85 = .ok (.goto 4, 3) := by decide +kernel
theorem dX9_scan_88 : decode cX9_scan 88 = .ok (.iconst 0, 1) := by decide +kernel
theorem dX9_scan_89 : decode cX9_scan 89 = .ok (.istore 4, 2) := by decide +kernel
theorem dX9_scan_91 : decode cX9_scan 91 = .ok (.iload 6, 2) := by decide +kernel
theorem dX9_scan_93 : decode cX9_scan 93 = .ok (.istore_n 3, 1) := by decide +kernel
theorem dX9_scan_94 : decode cX9_scan 94 = .ok (.iinc 5 1, 3) := by decide +kernel
theorem dX9_scan_97 : decode cX9_scan 97 = .ok (.goto (-84), 3) := by decide +kernel
theorem dX9_scan_100 : decode cX9_scan 100 = .ok (.return_, 1) := by decide +kernel
def fX9_scan_89 (k13 : Int → Int → Int → Int → Int → Int → V_ → Option (Int × V_)) (x0 x1 x2 x5 x6 s0 : Int) (v : V_) : Option (Int × V_) :=
  lt_ (wr_ (x5 + 1)) fun y11 =>
  k13 x0 x1 x2 x6 s0 y11 v
def fX9_scan_13 : Nat → Int → Int → Int → Int → Int → Int → V_ → Option (Int × V_)
  | 0, _, _, _, _, _, _, _ => none
  | n + 1, x0, x1, x2, x3, x4, x5, v =>
    if x4 = 0 then (
      some (0, v))
    else (
      if 400 < x5 then (
        some (0, v))
      else (
        bd_ (fX9_behindBlanks x1 x2 x3 v) fun q4 =>
        if q4.1 < x2 then (
          bd_ (fX9_endOfToken x1 x2 q4.1 q4.2) fun q6 =>
          bd_ (fX9_addFrom x0 x1 q4.1 q6.1 q6.2) fun q7 =>
          ck_ (0 ≤ wr_ ((q7.2 x0 4) - 1) ∧ wr_ ((q7.2 x0 4) - 1) < 402) (
          if (q7.2 (x0 + 2) (wr_ ((q7.2 x0 4) - 1))) = 20 then (
            fX9_scan_89 (fX9_scan_13 n) x0 x1 x2 x5 q6.1 0 q7.2)
          else (
            fX9_scan_89 (fX9_scan_13 n) x0 x1 x2 x5 q6.1 1 q7.2)))
        else (
          bd_ (fX9_add x0 19 x2 0 q4.2) fun q12 =>
          lt_ (wr_ (x5 + 1)) fun y13 =>
          (fX9_scan_13 n) x0 x1 x2 q4.1 0 y13 q12.2)))
def fX9_scan (x0 x1 x2 : Int) (v : V_) : Option (Int × V_) :=
  lt_ (up_ v x0 4 0) fun v1 =>
  fX9_scan_13 fu_ x0 x1 x2 0 1 0 v1
section
variable {E : En_} {p : Program} {l : Launch} {e : Env} {s : State} {m : MethodId} {args : Array Value} {below : List Frame} {meth : Method} {c : Code} {sz : Int}
theorem tX9_scan_89 (C : MC_ E p s m c cX9_scan 7 RX9) (hr : meth.sig.returnType = (none : Option FieldType)) (hlk : meth.locks = false) (hC : Cl_ E.2.2.2.2.2 sz) {out : Int × V_} (k13 : Int → Int → Int → Int → Int → Int → V_ → Option (Int × V_)) (H_13 : ∀ (x0 x1 x2 x3 x4 x5 : Int) (v : V_), (E.2.2.2.2.2 x0 ∧ ty_ x0 = 9 ∧ ln_ x0 = 0) → (E.2.2.2.2.2 x1 ∧ ty_ x1 = 21 ∧ ln_ x1 = 2000) → k13 x0 x1 x2 x3 x4 x5 v = some out → G_ E p l e (rm_ 3 72) s m args below meth c 7 sz (Q_ E below args s sz sz 9 out.1 out.2) 13 [(0, (2, x0)), (1, (2, x1)), (2, (0, x2)), (3, (0, x3)), (4, (0, x4)), (5, (0, x5))] [] v sz) (x0 x1 x2 x5 x6 s0 : Int) (v : V_) (T0 : (E.2.2.2.2.2 x0 ∧ ty_ x0 = 9 ∧ ln_ x0 = 0)) (T1 : (E.2.2.2.2.2 x1 ∧ ty_ x1 = 21 ∧ ln_ x1 = 2000)) (h : fX9_scan_89 k13 x0 x1 x2 x5 x6 s0 v = some out) : G_ E p l e (rm_ 3 72) s m args below meth c 7 sz (Q_ E below args s sz sz 9 out.1 out.2) 89 [(0, (2, x0)), (1, (2, x1)), (2, (0, x2)), (5, (0, x5)), (6, (0, x6))] [(0, s0)] v sz := by
  rw [fX9_scan_89] at h
  refine g_istore C (i := 4) (ls' := [(4, (0, s0)), (0, (2, x0)), (1, (2, x1)), (2, (0, x2)), (5, (0, x5)), (6, (0, x6))]) dX9_scan_89 (by decide) rfl ?_
  refine g_iload C (i := 6) dX9_scan_91 5 rfl ?_
  refine g_istore_n C (f := 3) (ls' := [(3, (0, x6)), (4, (0, s0)), (0, (2, x0)), (1, (2, x1)), (2, (0, x2)), (5, (0, x5)), (6, (0, x6))]) dX9_scan_93 (by decide) rfl ?_
  obtain ⟨y11, ey11, h⟩ := lt_e h
  refine g_iincx C (ls' := [(5, (0, y11)), (3, (0, x6)), (4, (0, s0)), (0, (2, x0)), (1, (2, x1)), (2, (0, x2)), (6, (0, x6))]) ey11 dX9_scan_94 5 rfl (by decide) (by decide) rfl ?_
  refine g_goto C 13 dX9_scan_97 rfl ?_
  refine g_sub [3, 4, 5, 1, 2, 0] rfl rfl ?_
  exact H_13 _ _ _ _ _ _ _ T0 T1 h
theorem tX9_scan_13 (C : MC_ E p s m c cX9_scan 7 RX9) (hr : meth.sig.returnType = (none : Option FieldType)) (hlk : meth.locks = false) (hC : Cl_ E.2.2.2.2.2 sz) {out : Int × V_} : ∀ (n : Nat) (x0 x1 x2 x3 x4 x5 : Int) (v : V_), (E.2.2.2.2.2 x0 ∧ ty_ x0 = 9 ∧ ln_ x0 = 0) → (E.2.2.2.2.2 x1 ∧ ty_ x1 = 21 ∧ ln_ x1 = 2000) → fX9_scan_13 n x0 x1 x2 x3 x4 x5 v = some out → G_ E p l e (rm_ 3 72) s m args below meth c 7 sz (Q_ E below args s sz sz 9 out.1 out.2) 13 [(0, (2, x0)), (1, (2, x1)), (2, (0, x2)), (3, (0, x3)), (4, (0, x4)), (5, (0, x5))] [] v sz := by
  intro n
  induction n with
  | zero =>
    intro x0 x1 x2 x3 x4 x5 v T0 T1 h
    cases h
  | succ n H_13 =>
    intro x0 x1 x2 x3 x4 x5 v T0 T1 h
    rw [fX9_scan_13] at h
    refine g_iload C (i := 4) dX9_scan_13 4 rfl ?_
    refine g_if_eq C 100 dX9_scan_15 rfl (fun c2 => ?_) (fun c2 => ?_)
    · replace h := if_t h c2
      cases h
      exact g_vret C dX9_scan_100 hr hlk
    · replace h := if_f h c2
      refine g_iload C (i := 5) dX9_scan_18 5 rfl ?_
      refine g_sipush C (n := 400) dX9_scan_20 (by decide) ?_
      refine g_icmp_gt C 100 dX9_scan_23 rfl (fun c3 => ?_) (fun c3 => ?_)
      · replace h := if_t h c3
        cases h
        exact g_vret C dX9_scan_100 hr hlk
      · replace h := if_f h c3
        refine g_aload_n C (f := 1) dX9_scan_26 1 rfl ?_
        refine g_iload_n C (f := 2) dX9_scan_27 2 rfl ?_
        refine g_iload_n C (f := 3) dX9_scan_28 3 rfl ?_
        obtain ⟨q4, eq4, h⟩ := bd_e h
        refine g_cS C [(2, x1), (0, x2), (0, x3)] (cX9_behindBlanks_ok l hC T1 eq4) km_RX9_47 cs_X9_behindBlanks rfl (by decide) rfl rfl (Nat.le_of_ble_eq_true rfl) dX9_scan_29 ?_
        refine g_istore_n C (f := 3) (ls' := [(3, (0, q4.1)), (0, (2, x0)), (1, (2, x1)), (2, (0, x2)), (4, (0, x4)), (5, (0, x5))]) dX9_scan_32 (by decide) rfl ?_
        refine g_iload_n C (f := 3) dX9_scan_33 0 rfl ?_
        refine g_iload_n C (f := 2) dX9_scan_34 3 rfl ?_
        refine g_icmp_lt C 52 dX9_scan_35 rfl (fun c5 => ?_) (fun c5 => ?_)
        · replace h := if_t h c5
          refine g_aload_n C (f := 1) dX9_scan_52 2 rfl ?_
          refine g_iload_n C (f := 2) dX9_scan_53 3 rfl ?_
          refine g_iload_n C (f := 3) dX9_scan_54 0 rfl ?_
          obtain ⟨q6, eq6, h⟩ := bd_e h
          refine g_cS C [(2, x1), (0, x2), (0, q4.1)] (cX9_endOfToken_ok l hC T1 eq6) km_RX9_55 cs_X9_endOfToken rfl (by decide) rfl rfl (Nat.le_of_ble_eq_true rfl) dX9_scan_55 ?_
          refine g_istore C (i := 6) (ls' := [(6, (0, q6.1)), (3, (0, q4.1)), (0, (2, x0)), (1, (2, x1)), (2, (0, x2)), (4, (0, x4)), (5, (0, x5))]) dX9_scan_58 (by decide) rfl ?_
          refine g_aload_n C (f := 0) dX9_scan_60 2 rfl ?_
          refine g_aload_n C (f := 1) dX9_scan_61 3 rfl ?_
          refine g_iload_n C (f := 3) dX9_scan_62 1 rfl ?_
          refine g_iload C (i := 6) dX9_scan_63 0 rfl ?_
          obtain ⟨q7, eq7, h⟩ := bd_e h
          refine g_cV C [(2, x1), (0, q4.1), (0, q6.1)] (cX9_addFrom_ok l hC T0 T1 eq7) okX9 T0.2.1 (rg_ hC T0.1) km_RX9_58 cv_X9_addFrom rfl (by decide) rfl rfl (Nat.le_of_ble_eq_true rfl) dX9_scan_65 ?_
          refine g_aload_n C (f := 0) dX9_scan_68 2 rfl ?_
          have F8 := fX9_1 hC T0.1 T0.2.1
          refine g_getR C (k := 1) (o := 2) okX9 (by decide) kf_RX9_15 dX9_scan_69 hC T0.1 T0.2.1 rfl rfl ?_
          refine g_aload_n C (f := 0) dX9_scan_72 2 rfl ?_
          refine g_getf C (k := 4) (kd := 0) okX9 (by decide) kf_RX9_43 dX9_scan_73 (rg_ hC T0.1) T0.2.1 rfl ?_
          refine g_iconst C (n := 1) dX9_scan_76 (by decide) ?_
          refine g_isub C dX9_scan_77 ?_
          obtain ⟨c9, h⟩ := ck_e h
          refine g_iald C 402 dX9_scan_78 (rg_ hC F8.1) F8.2.1 F8.2.2 c9 ?_
          refine g_bipush C (n := 20) dX9_scan_79 (by decide) ?_
          refine g_icmp_eq C 88 dX9_scan_81 rfl (fun c10 => ?_) (fun c10 => ?_)
          · replace h := if_t h c10
            refine g_iconst C (n := 0) dX9_scan_88 (by decide) ?_
            refine g_sub [2, 3, 4, 6, 0] rfl rfl ?_
            exact tX9_scan_89 C hr hlk hC _ H_13 _ _ _ _ _ _ _ T0 T1 h
          · replace h := if_f h c10
            refine g_iconst C (n := 1) dX9_scan_84 (by decide) ?_
            refine g_goto C 89 dX9_scan_85 rfl ?_
            refine g_sub [2, 3, 4, 6, 0] rfl rfl ?_
            exact tX9_scan_89 C hr hlk hC _ H_13 _ _ _ _ _ _ _ T0 T1 h
        · replace h := if_f h c5
          refine g_aload_n C (f := 0) dX9_scan_38 1 rfl ?_
          refine g_bipush C (n := 19) dX9_scan_39 (by decide) ?_
          refine g_iload_n C (f := 2) dX9_scan_41 3 rfl ?_
          refine g_lconst C (z := 0) dX9_scan_42 (by decide) ?_
          obtain ⟨q12, eq12, h⟩ := bd_e h
          refine g_cV C [(0, 19), (0, x2), (1, 0)] (cX9_add_ok l hC T0 eq12) okX9 T0.2.1 (rg_ hC T0.1) km_RX9_51 cv_X9_add rfl (by decide) rfl rfl (Nat.le_of_ble_eq_true rfl) dX9_scan_43 ?_
          refine g_iconst C (n := 0) dX9_scan_46 (by decide) ?_
          refine g_istore C (i := 4) (ls' := [(4, (0, 0)), (3, (0, q4.1)), (0, (2, x0)), (1, (2, x1)), (2, (0, x2)), (5, (0, x5))]) dX9_scan_47 (by decide) rfl ?_
          refine g_goto C 94 dX9_scan_49 rfl ?_
          obtain ⟨y13, ey13, h⟩ := lt_e h
          refine g_iincx C (ls' := [(5, (0, y13)), (4, (0, 0)), (3, (0, q4.1)), (0, (2, x0)), (1, (2, x1)), (2, (0, x2))]) ey13 dX9_scan_94 5 rfl (by decide) (by decide) rfl ?_
          refine g_goto C 13 dX9_scan_97 rfl ?_
          refine g_sub [3, 4, 5, 2, 1, 0] rfl rfl ?_
          exact H_13 _ _ _ _ _ _ _ T0 T1 h
end
theorem cX9_scan_ok (l : Launch) {E : En_} {sz : Int} (hC : Cl_ E.2.2.2.2.2 sz) {x0 x1 x2 : Int} {v : V_} {out : Int × V_} (T0 : (E.2.2.2.2.2 x0 ∧ ty_ x0 = 9 ∧ ln_ x0 = 0)) (T1 : (E.2.2.2.2.2 x1 ∧ ty_ x1 = 21 ∧ ln_ x1 = 2000)) (h : fX9_scan x0 x1 x2 v = some out) : Met l yX9_scan [.code yX9_scan cX9_scan 7 (none : Option FieldType)] (rm_ 3 72) (Pc_ E sz v [(2, x0), (2, x1), (0, x2)]) (Qc_ E sz 9 out.1 out.2) 0 0 (fun q => E.1 < q) := by
  refine met_G0 RX9 (by decide +kernel) rfl (Nat.le_of_ble_eq_true rfl) ?_
  intro p e s m args below meth c C hr hlk
  rw [fX9_scan] at h
  refine g_aload_n C (f := 0) dX9_scan_0 0 rfl ?_
  refine g_iconst C (n := 0) dX9_scan_1 (by decide) ?_
  obtain ⟨v1, ev1, h⟩ := lt_e h
  refine g_putf C (k := 4) (kd := 0) okX9 (by decide) kf_RX9_43 dX9_scan_2 (rg_ hC T0.1) T0.2.1 rfl rfl nvI (Or.inl rfl) v1 ev1 ?_
  refine g_iconst C (n := 0) dX9_scan_5 (by decide) ?_
  refine g_istore_n C (f := 3) (ls' := [(3, (0, 0)), (0, (2, x0)), (1, (2, x1)), (2, (0, x2))]) dX9_scan_6 (by decide) rfl ?_
  refine g_iconst C (n := 1) dX9_scan_7 (by decide) ?_
  refine g_istore C (i := 4) (ls' := [(4, (0, 1)), (3, (0, 0)), (0, (2, x0)), (1, (2, x1)), (2, (0, x2))]) dX9_scan_8 (by decide) rfl ?_
  refine g_iconst C (n := 0) dX9_scan_10 (by decide) ?_
  refine g_istore C (i := 5) (ls' := [(5, (0, 0)), (4, (0, 1)), (3, (0, 0)), (0, (2, x0)), (1, (2, x1)), (2, (0, x2))]) dX9_scan_11 (by decide) rfl ?_
  refine g_sub [3, 4, 5, 2, 1, 0] rfl rfl ?_
  exact tX9_scan_13 C hr hlk hC _ _ _ _ _ _ _ _ T0 T1 h
theorem dX3_parse_0 : decode cX3_parse 0 = .ok (.aload_n 0, 1) := by decide +kernel
theorem dX3_parse_1 : decode cX3_parse 1 = .ok (.aload_n 3, 1) := by decide +kernel
theorem dX3_parse_2 : decode cX3_parse 2 = .ok (.putfield 29, 3) := by decide +kernel
theorem dX3_parse_5 : decode cX3_parse 5 = .ok (.aload_n 0, 1) := by decide +kernel
theorem dX3_parse_6 : decode cX3_parse 6 = .ok (.getfield 29, 3) := by decide +kernel
theorem dX3_parse_9 : decode cX3_parse 9 = .ok (.invokevirtual 33, 3) := by decide +kernel
theorem dX3_parse_12 : decode cX3_parse 12 = .ok (.aload_n 0, 1) := by decide +kernel
theorem dX3_parse_13 : decode cX3_parse 13 = .ok (.getfield 22, 3) := by decide +kernel
theorem dX3_parse_16 : decode cX3_parse 16 = .ok (.lconst 0, 1) := by decide +kernel
theorem dX3_parse_17 : decode cX3_parse 17 = .ok (.invokestatic 38, 3) := by decide +kernel
theorem dX3_parse_20 : decode cX3_parse 20 = .ok (.aload_n 0, 1) := by decide +kernel
theorem dX3_parse_21 : decode cX3_parse 21 = .ok (.iconst 0, 1) := by decide +kernel
theorem dX3_parse_22 : decode cX3_parse 22 = .ok (.putfield 44, 3) := by decide +kernel
theorem dX3_parse_25 : decode cX3_parse 25 = .ok (.aload_n 0, 1) := by decide +kernel
theorem dX3_parse_26 : decode cX3_parse 26 = .ok (.iconst 0, 1) := by decide +kernel
theorem dX3_parse_27 : decode cX3_parse 27 = .ok (.putfield 48, 3) := by decide +kernel
theorem dX3_parse_30 : decode cX3_parse 30 = .ok (.aload_n 0, 1) := by decide +kernel
theorem dX3_parse_31 : decode cX3_parse 31 = .ok (.iconst 0, 1) := by decide +kernel
theorem dX3_parse_32 : decode cX3_parse 32 = .ok (.putfield 51, 3) := by decide +kernel
theorem dX3_parse_35 : decode cX3_parse 35 = .ok (.aload_n 0, 1) := by decide +kernel
theorem dX3_parse_36 : decode cX3_parse 36 = .ok (.iconst (-1), 1) := by decide +kernel
theorem dX3_parse_37 : decode cX3_parse 37 = .ok (.putfield 54, 3) := by decide +kernel
theorem dX3_parse_40 : decode cX3_parse 40 = .ok (.aload_n 0, 1) := by decide +kernel
theorem dX3_parse_41 : decode cX3_parse 41 = .ok (.getfield 12, 3) := by decide +kernel
theorem dX3_parse_44 : decode cX3_parse 44 = .ok (.aload_n 1, 1) := by decide +kernel
theorem dX3_parse_45 : decode cX3_parse 45 = .ok (.iload_n 2, 1) := by decide +kernel
theorem dX3_parse_46 : decode cX3_parse 46 = .ok (.invokevirtual 57, 3) := by decide +kernel
theorem dX3_parse_49 : decode cX3_parse 49 = .ok (.iconst 0, 1) := by decide +kernel
theorem dX3_parse_50 : decode cX3_parse 50 = .ok (.istore 4, 2) := by decide +kernel
theorem dX3_parse_52 : decode cX3_parse 52 = .ok (.iload 4, 2) := by decide +kernel
theorem dX3_parse_54 : decode cX3_parse 54 = .ok (.sipush 400, 3) := by decide +kernel
theorem dX3_parse_57 : decode cX3_parse 57 = .ok (.if_icmp .gt 60, 3) := by decide +kernel
theorem dX3_parse_60 : decode cX3_parse 60 = .ok (.aload_n 0, 1) := by decide +kernel
theorem dX3_parse_61 : decode cX3_parse 61 = .ok (.getfield 48, 3) := by decide +kernel
theorem dX3_parse_64 : decode cX3_parse 64 = .ok (.ifCond .ne 53, 3) := by decide +kernel
theorem dX3_parse_67 : decode cX3_parse 67 = .ok (.aload_n 0, 1) := by decide +kernel
theorem dX3_parse_68 : decode cX3_parse 68 = .ok (.bipush 19, 2) := by decide +kernel
theorem dX3_parse_70 : decode cX3_parse 70 = .ok (.invokevirtual 61, 3) := by decide +kernel
theorem dX3_parse_73 : decode cX3_parse 73 = .ok (.ifCond .ne 44, 3) := by decide +kernel
theorem dX3_parse_76 : decode cX3_parse 76 = .ok (.aload_n 0, 1) := by decide +kernel
theorem dX3_parse_77 : decode cX3_parse 77 = .ok (.iconst 0, 1) := by decide +kernel
theorem dX3_parse_78 : decode cX3_parse 78 = .ok (.invokevirtual 61, 3) := by decide +kernel
theorem dX3_parse_81 : decode cX3_parse 81 = .ok (.ifCond .eq 10, 3) := by decide +kernel
theorem dX3_parse_84 : decode cX3_parse 84 = .ok (.aload_n 0, 1) := by decide +kernel
theorem dX3_parse_85 : decode cX3_parse 85 = .ok (.invokevirtual 65, 3) := by decide +kernel
theorem dX3_parse_88 : decode cX3_parse 88 = .ok (.goto 23, 3) := by decide +kernel
theorem dX3_parse_91 : decode cX3_parse 91 = .ok (.aload_n 0, 1) := by decide +kernel
theorem dX3_parse_92 : decode cX3_parse 92 = .ok (.iconst 1, 1) := by decide +kernel
theorem dX3_parse_93 : decode cX3_parse 93 = .ok (.invokevirtual 61, 3) := by decide +kernel
theorem dX3_parse_96 : decode cX3_parse 96 = .ok (.ifCond .eq 10, 3) := by decide +kernel
theorem dX3_parse_99 : decode cX3_parse 99 = .ok (.aload_n 0, 1) := by decide +kernel
theorem dX3_parse_100 : decode cX3_parse 100 = .ok (.invokevirtual 68, 3) := by decide +kernel
theorem dX3_parse_103 : decode cX3_parse 103 = .ok (.goto 8, 3) := by decide +kernel
theorem dX3_parse_106 : decode cX3_parse 106 = .ok (.aload_n 0, 1) := by decide +kernel
theorem dX3_parse_107 : decode cX3_parse 107 = .ok (.iconst 1, 1) := by decide +kernel
theorem dX3_parse_108 : decode cX3_parse 108 = .ok (.invokevirtual 71, 3) := by decide +kernel
theorem dX3_parse_111 : decode cX3_parse 111 = .ok (.iinc 4 1, 3) := by decide +kernel
theorem dX3_parse_114 : decode cX3_parse 114 = .ok (.goto (-62), 3) := by decide +kernel
theorem dX3_parse_117 : decode cX3_parse 117 = .ok (.aload_n 0, 1) := by decide +kernel
theorem dX3_parse_118 : decode cX3_parse 118 = .ok (.getfield 48, 3) := by decide +kernel
theorem dX3_parse_121 : decode cX3_parse 121 = .ok (.ifCond .ne 26, 3) := by decide +kernel
theorem dX3_parse_124 : decode cX3_parse 124 = .ok (.aload_n 0, 1) := by decide +kernel
theorem dX3_parse_125 : decode cX3_parse 125 = .ok (.invokevirtual 75, 3) := by decide +kernel
theorem dX3_parse_128 : decode cX3_parse 128 = .ok (.aload_n 0, 1) := by decide +kernel
theorem dX3_parse_129 : decode cX3_parse 129 = .ok (.aload_n 0, 1) := by decide +kernel
theorem dX3_parse_130 : decode cX3_parse 130 = .ok (.getfield 51, 3) := by decide +kernel
theorem dX3_parse_133 : decode cX3_parse 133 = .ok (.putfield 48, 3) := by decide +kernel
theorem dX3_parse_136 : decode cX3_parse 136 = .ok (.aload_n 0, 1) := by decide +kernel
theorem dX3_parse_137 : decode cX3_parse 137 = .ok (.aload_n 0, 1) := by decide +kernel
theorem dX3_parse_138 : decode cX3_parse 138 = .ok (.getfield 54, 3) := by decide +kernel
theorem dX3_parse_141 : decode cX3_parse 141 = .ok (.putfield 78, 3) := by decide +kernel
theorem dX3_parse_144 : decode cX3_parse 144 = .ok (.goto 18, 3) := by decide +kernel
theorem dX3_parse_147 : decode cX3_parse 147 = .ok (.aload_n 0, 1) := by decide +kernel
theorem dX3_parse_148 : decode cX3_parse 148 = .ok (.aload_n 0, 1) := by decide +kernel
theorem dX3_parse_149 : decode cX3_parse 149 = .ok (.getfield 12, 3) := by decide +kernel
theorem dX3_parse_152 : decode cX3_parse 152 = .ok (.aload_n 0, 1) := by decide +kernel
theorem dX3_parse_153 : decode cX3_parse 153 = .ok (.getfield 44, 3) := by decide +kernel
theorem dX3_parse_156 : decode cX3_parse 156 = .ok (.invokevirtual 81, 3) := by decide +kernel
theorem dX3_parse_159 : decode cX3_parse 159 = .ok (.putfield 78, 3) := by decide +kernel
theorem dX3_parse_162 : decode cX3_parse 162 = .ok (.aload_n 0, 1) := by decide +kernel
theorem dX3_parse_163 : decode cX3_parse 163 = .ok (.getfield 48, 3) := by decide +kernel
theorem dX3_parse_166 : decode cX3_parse 166 = .ok (.ireturn, 1) := by decide +kernel
def fX3_parse_117 (x0 : Int) (v : V_) : Option (Int × V_) :=
  if (v x0 6) = 0 then (
    bd_ (fX3_resolveWays x0 v) fun q18 =>
    lt_ (up_ q18.2 x0 6 (q18.2 x0 8)) fun v19 =>
    lt_ (up_ v19 x0 7 (v19 x0 9)) fun v20 =>
    some (v20 x0 6, v20))
  else (
    bd_ (fX9_placeAt (x0 + 1) (v x0 5) v) fun q16 =>
    lt_ (up_ q16.2 x0 7 q16.1) fun v17 =>
    some (v17 x0 6, v17))
def fX3_parse_52 : Nat → Int → Int → V_ → Option (Int × V_)
  | 0, _, _, _ => none
  | n + 1, x0, x4, v =>
    if 400 < x4 then (
      fX3_parse_117 x0 v)
    else (
      if (v x0 6) = 0 then (
        bd_ (fX3_sees x0 19 v) fun q22 =>
        if q22.1 = 0 then (
          bd_ (fX3_sees x0 0 q22.2) fun q24 =>
          if q24.1 = 0 then (
            bd_ (fX3_sees x0 1 q24.2) fun q26 =>
            if q26.1 = 0 then (
              bd_ (fX3_fail x0 1 q26.2) fun q28 =>
              lt_ (wr_ (x4 + 1)) fun y29 =>
              (fX3_parse_52 n) x0 y29 q28.2)
            else (
              bd_ (fX3_parseBlock x0 q26.2) fun q30 =>
              lt_ (wr_ (x4 + 1)) fun y31 =>
              (fX3_parse_52 n) x0 y31 q30.2))
          else (
            bd_ (fX3_parseUnits x0 q24.2) fun q32 =>
            lt_ (wr_ (x4 + 1)) fun y33 =>
            (fX3_parse_52 n) x0 y33 q32.2))
        else (
          fX3_parse_117 x0 q22.2))
      else (
        fX3_parse_117 x0 v))
def fX3_parse (x0 x1 x2 x3 : Int) (v : V_) : Option (Int × V_) :=
  lt_ (up_ v x0 4 x3) fun v1 =>
  ck_ (v1 x0 4 = PA_ ∨ v1 x0 4 = PB_) (
  bd_ (fX5_startAnew (v1 x0 4) v1) fun q4 =>
  lt_ (fl_ q4.2 (x0 + 7) 16 0) fun v6 =>
  lt_ (up_ v6 x0 5 0) fun v7 =>
  lt_ (up_ v7 x0 6 0) fun v8 =>
  lt_ (up_ v8 x0 8 0) fun v9 =>
  lt_ (up_ v9 x0 9 (-1)) fun v10 =>
  bd_ (fX9_scan (x0 + 1) x1 x2 v10) fun q12 =>
  fX3_parse_52 fu_ x0 0 q12.2)
section
variable {E : En_} {p : Program} {l : Launch} {e : Env} {s : State} {m : MethodId} {args : Array Value} {below : List Frame} {meth : Method} {c : Code} {sz : Int}
theorem tX3_parse_117 (C : MC_ E p s m c cX3_parse 5 RX3) (hr : meth.sig.returnType = (some FieldType.int)) (hlk : meth.locks = false) (hC : Cl_ E.2.2.2.2.2 sz) (hG : Pg_ E.2.2.2.2.2) {out : Int × V_} (x0 : Int) (v : V_) (T0 : (E.2.2.2.2.2 x0 ∧ ty_ x0 = 3 ∧ ln_ x0 = 0)) (h : fX3_parse_117 x0 v = some out) : G_ E p l e (rm_ 6 131) s m args below meth c 5 sz (Q_ E below args s sz sz 0 out.1 out.2) 117 [(0, (2, x0))] [] v sz := by
  rw [fX3_parse_117] at h
  refine g_aload_n C (f := 0) dX3_parse_117 0 rfl ?_
  refine g_getf C (k := 6) (kd := 0) okX3 (by decide) kf_RX3_48 dX3_parse_118 (rg_ hC T0.1) T0.2.1 rfl ?_
  refine g_if_ne C 147 dX3_parse_121 rfl (fun c14 => ?_) (fun c14 => ?_)
  · replace h := if_f h c14
    refine g_aload_n C (f := 0) dX3_parse_147 0 rfl ?_
    refine g_aload_n C (f := 0) dX3_parse_148 0 rfl ?_
    have F15 := fX3_0 hC T0.1 T0.2.1
    refine g_getR C (k := 0) (o := 1) okX3 (by decide) kf_RX3_12 dX3_parse_149 hC T0.1 T0.2.1 rfl rfl ?_
    refine g_aload_n C (f := 0) dX3_parse_152 0 rfl ?_
    refine g_getf C (k := 5) (kd := 0) okX3 (by decide) kf_RX3_44 dX3_parse_153 (rg_ hC T0.1) T0.2.1 rfl ?_
    obtain ⟨q16, eq16, h⟩ := bd_e h
    refine g_cV C [(0, v x0 5)] (cX9_placeAt_ok l hC F15 eq16) okX9 F15.2.1 (rg_ hC F15.1) km_RX3_81 cv_X9_placeAt rfl (by decide) rfl rfl (Nat.le_of_ble_eq_true rfl) dX3_parse_156 ?_
    obtain ⟨v17, ev17, h⟩ := lt_e h
    refine g_putf C (k := 7) (kd := 0) okX3 (by decide) kf_RX3_78 dX3_parse_159 (rg_ hC T0.1) T0.2.1 rfl rfl nvI (Or.inl rfl) v17 ev17 ?_
    refine g_aload_n C (f := 0) dX3_parse_162 0 rfl ?_
    refine g_getf C (k := 6) (kd := 0) okX3 (by decide) kf_RX3_48 dX3_parse_163 (rg_ hC T0.1) T0.2.1 rfl ?_
    cases h
    exact g_iret C dX3_parse_166 hr hlk
  · replace h := if_t h c14
    refine g_aload_n C (f := 0) dX3_parse_124 0 rfl ?_
    obtain ⟨q18, eq18, h⟩ := bd_e h
    refine g_cV C [] (cX3_resolveWays_ok l hC hG T0 eq18) okX3 T0.2.1 (rg_ hC T0.1) km_RX3_75 cv_X3_resolveWays rfl (by decide) rfl rfl (Nat.le_of_ble_eq_true rfl) dX3_parse_125 ?_
    refine g_aload_n C (f := 0) dX3_parse_128 0 rfl ?_
    refine g_aload_n C (f := 0) dX3_parse_129 0 rfl ?_
    refine g_getf C (k := 8) (kd := 0) okX3 (by decide) kf_RX3_51 dX3_parse_130 (rg_ hC T0.1) T0.2.1 rfl ?_
    obtain ⟨v19, ev19, h⟩ := lt_e h
    refine g_putf C (k := 6) (kd := 0) okX3 (by decide) kf_RX3_48 dX3_parse_133 (rg_ hC T0.1) T0.2.1 rfl rfl nvI (Or.inl rfl) v19 ev19 ?_
    refine g_aload_n C (f := 0) dX3_parse_136 0 rfl ?_
    refine g_aload_n C (f := 0) dX3_parse_137 0 rfl ?_
    refine g_getf C (k := 9) (kd := 0) okX3 (by decide) kf_RX3_54 dX3_parse_138 (rg_ hC T0.1) T0.2.1 rfl ?_
    obtain ⟨v20, ev20, h⟩ := lt_e h
    refine g_putf C (k := 7) (kd := 0) okX3 (by decide) kf_RX3_78 dX3_parse_141 (rg_ hC T0.1) T0.2.1 rfl rfl nvI (Or.inl rfl) v20 ev20 ?_
    refine g_goto C 162 dX3_parse_144 rfl ?_
    refine g_aload_n C (f := 0) dX3_parse_162 0 rfl ?_
    refine g_getf C (k := 6) (kd := 0) okX3 (by decide) kf_RX3_48 dX3_parse_163 (rg_ hC T0.1) T0.2.1 rfl ?_
    cases h
    exact g_iret C dX3_parse_166 hr hlk
theorem tX3_parse_52 (C : MC_ E p s m c cX3_parse 5 RX3) (hr : meth.sig.returnType = (some FieldType.int)) (hlk : meth.locks = false) (hC : Cl_ E.2.2.2.2.2 sz) (hG : Pg_ E.2.2.2.2.2) {out : Int × V_} : ∀ (n : Nat) (x0 x4 : Int) (v : V_), (E.2.2.2.2.2 x0 ∧ ty_ x0 = 3 ∧ ln_ x0 = 0) → fX3_parse_52 n x0 x4 v = some out → G_ E p l e (rm_ 6 131) s m args below meth c 5 sz (Q_ E below args s sz sz 0 out.1 out.2) 52 [(0, (2, x0)), (4, (0, x4))] [] v sz := by
  intro n
  induction n with
  | zero =>
    intro x0 x4 v T0 h
    cases h
  | succ n H_52 =>
    intro x0 x4 v T0 h
    rw [fX3_parse_52] at h
    refine g_iload C (i := 4) dX3_parse_52 1 rfl ?_
    refine g_sipush C (n := 400) dX3_parse_54 (by decide) ?_
    refine g_icmp_gt C 117 dX3_parse_57 rfl (fun c13 => ?_) (fun c13 => ?_)
    · replace h := if_t h c13
      refine g_sub [0] rfl rfl ?_
      exact tX3_parse_117 C hr hlk hC hG _ _ T0 h
    · replace h := if_f h c13
      refine g_aload_n C (f := 0) dX3_parse_60 0 rfl ?_
      refine g_getf C (k := 6) (kd := 0) okX3 (by decide) kf_RX3_48 dX3_parse_61 (rg_ hC T0.1) T0.2.1 rfl ?_
      refine g_if_ne C 117 dX3_parse_64 rfl (fun c21 => ?_) (fun c21 => ?_)
      · replace h := if_f h c21
        refine g_sub [0] rfl rfl ?_
        exact tX3_parse_117 C hr hlk hC hG _ _ T0 h
      · replace h := if_t h c21
        refine g_aload_n C (f := 0) dX3_parse_67 0 rfl ?_
        refine g_bipush C (n := 19) dX3_parse_68 (by decide) ?_
        obtain ⟨q22, eq22, h⟩ := bd_e h
        refine g_cV C [(0, 19)] (cX3_sees_ok l hC hG T0 eq22) okX3 T0.2.1 (rg_ hC T0.1) km_RX3_61 cv_X3_sees rfl (by decide) rfl rfl (Nat.le_of_ble_eq_true rfl) dX3_parse_70 ?_
        refine g_if_ne C 117 dX3_parse_73 rfl (fun c23 => ?_) (fun c23 => ?_)
        · replace h := if_f h c23
          refine g_sub [0] rfl rfl ?_
          exact tX3_parse_117 C hr hlk hC hG _ _ T0 h
        · replace h := if_t h c23
          refine g_aload_n C (f := 0) dX3_parse_76 0 rfl ?_
          refine g_iconst C (n := 0) dX3_parse_77 (by decide) ?_
          obtain ⟨q24, eq24, h⟩ := bd_e h
          refine g_cV C [(0, 0)] (cX3_sees_ok l hC hG T0 eq24) okX3 T0.2.1 (rg_ hC T0.1) km_RX3_61 cv_X3_sees rfl (by decide) rfl rfl (Nat.le_of_ble_eq_true rfl) dX3_parse_78 ?_
          refine g_if_eq C 91 dX3_parse_81 rfl (fun c25 => ?_) (fun c25 => ?_)
          · replace h := if_t h c25
            refine g_aload_n C (f := 0) dX3_parse_91 0 rfl ?_
            refine g_iconst C (n := 1) dX3_parse_92 (by decide) ?_
            obtain ⟨q26, eq26, h⟩ := bd_e h
            refine g_cV C [(0, 1)] (cX3_sees_ok l hC hG T0 eq26) okX3 T0.2.1 (rg_ hC T0.1) km_RX3_61 cv_X3_sees rfl (by decide) rfl rfl (Nat.le_of_ble_eq_true rfl) dX3_parse_93 ?_
            refine g_if_eq C 106 dX3_parse_96 rfl (fun c27 => ?_) (fun c27 => ?_)
            · replace h := if_t h c27
              refine g_aload_n C (f := 0) dX3_parse_106 0 rfl ?_
              refine g_iconst C (n := 1) dX3_parse_107 (by decide) ?_
              obtain ⟨q28, eq28, h⟩ := bd_e h
              refine g_cV C [(0, 1)] (cX3_fail_ok l hC hG T0 eq28) okX3 T0.2.1 (rg_ hC T0.1) km_RX3_71 cv_X3_fail rfl (by decide) rfl rfl (Nat.le_of_ble_eq_true rfl) dX3_parse_108 ?_
              obtain ⟨y29, ey29, h⟩ := lt_e h
              refine g_iincx C (ls' := [(4, (0, y29)), (0, (2, x0))]) ey29 dX3_parse_111 1 rfl (by decide) (by decide) rfl ?_
              refine g_goto C 52 dX3_parse_114 rfl ?_
              refine g_sub [1, 0] rfl rfl ?_
              exact H_52 _ _ _ T0 h
            · replace h := if_f h c27
              refine g_aload_n C (f := 0) dX3_parse_99 0 rfl ?_
              obtain ⟨q30, eq30, h⟩ := bd_e h
              refine g_cV C [] (cX3_parseBlock_ok l hC hG T0 eq30) okX3 T0.2.1 (rg_ hC T0.1) km_RX3_68 cv_X3_parseBlock rfl (by decide) rfl rfl (Nat.le_of_ble_eq_true rfl) dX3_parse_100 ?_
              refine g_goto C 111 dX3_parse_103 rfl ?_
              obtain ⟨y31, ey31, h⟩ := lt_e h
              refine g_iincx C (ls' := [(4, (0, y31)), (0, (2, x0))]) ey31 dX3_parse_111 1 rfl (by decide) (by decide) rfl ?_
              refine g_goto C 52 dX3_parse_114 rfl ?_
              refine g_sub [1, 0] rfl rfl ?_
              exact H_52 _ _ _ T0 h
          · replace h := if_f h c25
            refine g_aload_n C (f := 0) dX3_parse_84 0 rfl ?_
            obtain ⟨q32, eq32, h⟩ := bd_e h
            refine g_cV C [] (cX3_parseUnits_ok l hC hG T0 eq32) okX3 T0.2.1 (rg_ hC T0.1) km_RX3_65 cv_X3_parseUnits rfl (by decide) rfl rfl (Nat.le_of_ble_eq_true rfl) dX3_parse_85 ?_
            refine g_goto C 111 dX3_parse_88 rfl ?_
            obtain ⟨y33, ey33, h⟩ := lt_e h
            refine g_iincx C (ls' := [(4, (0, y33)), (0, (2, x0))]) ey33 dX3_parse_111 1 rfl (by decide) (by decide) rfl ?_
            refine g_goto C 52 dX3_parse_114 rfl ?_
            refine g_sub [1, 0] rfl rfl ?_
            exact H_52 _ _ _ T0 h
end
theorem cX3_parse_ok (l : Launch) {E : En_} {sz : Int} (hC : Cl_ E.2.2.2.2.2 sz) (hG : Pg_ E.2.2.2.2.2) {x0 x1 x2 x3 : Int} {v : V_} {out : Int × V_} (T0 : (E.2.2.2.2.2 x0 ∧ ty_ x0 = 3 ∧ ln_ x0 = 0)) (T1 : (E.2.2.2.2.2 x1 ∧ ty_ x1 = 21 ∧ ln_ x1 = 2000)) (T3 : (E.2.2.2.2.2 x3 ∧ ty_ x3 = 5 ∧ ln_ x3 = 0)) (h : fX3_parse x0 x1 x2 x3 v = some out) : Met l yX3_parse [.code yX3_parse cX3_parse 5 (some FieldType.int)] (rm_ 6 131) (Pc_ E sz v [(2, x0), (2, x1), (0, x2), (2, x3)]) (Qc_ E sz 0 out.1 out.2) 0 0 (fun q => E.1 < q) := by
  refine met_G0 RX3 (by decide +kernel) rfl (Nat.le_of_ble_eq_true rfl) ?_
  intro p e s m args below meth c C hr hlk
  rw [fX3_parse] at h
  refine g_aload_n C (f := 0) dX3_parse_0 0 rfl ?_
  refine g_aload_n C (f := 3) dX3_parse_1 3 rfl ?_
  obtain ⟨v1, ev1, h⟩ := lt_e h
  refine g_putf C (k := 4) (kd := 2) okX3 (by decide) kf_RX3_29 dX3_parse_2 (rg_ hC T0.1) T0.2.1 rfl rfl nvR (Or.inl rfl) v1 ev1 ?_
  refine g_aload_n C (f := 0) dX3_parse_5 0 rfl ?_
  obtain ⟨c2, h⟩ := ck_e h
  refine g_getf C (k := 4) (kd := 2) okX3 (by decide) kf_RX3_29 dX3_parse_6 (rg_ hC T0.1) T0.2.1 rfl ?_
  have F3 := pgF_ hG c2
  obtain ⟨q4, eq4, h⟩ := bd_e h
  refine g_cV C [] (cX5_startAnew_ok l hC F3 eq4) okX5 F3.2.1 (rg_ hC F3.1) km_RX3_33 cv_X5_startAnew rfl (by decide) rfl rfl (Nat.le_of_ble_eq_true rfl) dX3_parse_9 ?_
  refine g_aload_n C (f := 0) dX3_parse_12 0 rfl ?_
  have F5 := fX3_2 hC T0.1 T0.2.1
  refine g_getR C (k := 2) (o := 7) okX3 (by decide) kf_RX3_22 dX3_parse_13 hC T0.1 T0.2.1 rfl rfl ?_
  refine g_lconst C (z := 0) dX3_parse_16 (by decide) ?_
  obtain ⟨v6, ev6, h⟩ := lt_e h
  refine g_cS C [(2, x0 + 7), (1, 0)] (c_fillJ l (rg_ hC F5.1) F5.2.1 F5.2.2 (by decide)) km_RX3_38 cs_FillJ rfl (by decide) rfl rfl (Nat.le_of_ble_eq_true rfl) dX3_parse_17 ?_
  refine g_setv C ev6 ?_
  refine g_aload_n C (f := 0) dX3_parse_20 0 rfl ?_
  refine g_iconst C (n := 0) dX3_parse_21 (by decide) ?_
  obtain ⟨v7, ev7, h⟩ := lt_e h
  refine g_putf C (k := 5) (kd := 0) okX3 (by decide) kf_RX3_44 dX3_parse_22 (rg_ hC T0.1) T0.2.1 rfl rfl nvI (Or.inl rfl) v7 ev7 ?_
  refine g_aload_n C (f := 0) dX3_parse_25 0 rfl ?_
  refine g_iconst C (n := 0) dX3_parse_26 (by decide) ?_
  obtain ⟨v8, ev8, h⟩ := lt_e h
  refine g_putf C (k := 6) (kd := 0) okX3 (by decide) kf_RX3_48 dX3_parse_27 (rg_ hC T0.1) T0.2.1 rfl rfl nvI (Or.inl rfl) v8 ev8 ?_
  refine g_aload_n C (f := 0) dX3_parse_30 0 rfl ?_
  refine g_iconst C (n := 0) dX3_parse_31 (by decide) ?_
  obtain ⟨v9, ev9, h⟩ := lt_e h
  refine g_putf C (k := 8) (kd := 0) okX3 (by decide) kf_RX3_51 dX3_parse_32 (rg_ hC T0.1) T0.2.1 rfl rfl nvI (Or.inl rfl) v9 ev9 ?_
  refine g_aload_n C (f := 0) dX3_parse_35 0 rfl ?_
  refine g_iconst C (n := (-1)) dX3_parse_36 (by decide) ?_
  obtain ⟨v10, ev10, h⟩ := lt_e h
  refine g_putf C (k := 9) (kd := 0) okX3 (by decide) kf_RX3_54 dX3_parse_37 (rg_ hC T0.1) T0.2.1 rfl rfl nvI (Or.inl rfl) v10 ev10 ?_
  refine g_aload_n C (f := 0) dX3_parse_40 0 rfl ?_
  have F11 := fX3_0 hC T0.1 T0.2.1
  refine g_getR C (k := 0) (o := 1) okX3 (by decide) kf_RX3_12 dX3_parse_41 hC T0.1 T0.2.1 rfl rfl ?_
  refine g_aload_n C (f := 1) dX3_parse_44 1 rfl ?_
  refine g_iload_n C (f := 2) dX3_parse_45 2 rfl ?_
  obtain ⟨q12, eq12, h⟩ := bd_e h
  refine g_cV C [(2, x1), (0, x2)] (cX9_scan_ok l hC F11 T1 eq12) okX9 F11.2.1 (rg_ hC F11.1) km_RX3_57 cv_X9_scan rfl (by decide) rfl rfl (Nat.le_of_ble_eq_true rfl) dX3_parse_46 ?_
  refine g_iconst C (n := 0) dX3_parse_49 (by decide) ?_
  refine g_istore C (i := 4) (ls' := [(4, (0, 0)), (0, (2, x0)), (1, (2, x1)), (2, (0, x2)), (3, (2, x3))]) dX3_parse_50 (by decide) rfl ?_
  refine g_sub [1, 0] rfl rfl ?_
  exact tX3_parse_52 C hr hlk hC hG _ _ _ _ T0 h
theorem dX3_placeOfFault_0 : decode cX3_placeOfFault 0 = .ok (.aload_n 0, 1) := by decide +kernel
theorem dX3_placeOfFault_1 : decode cX3_placeOfFault 1 = .ok (.getfield 78, 3) := by decide +kernel
theorem dX3_placeOfFault_4 : decode cX3_placeOfFault 4 = .ok (.ireturn, 1) := by decide +kernel
def fX3_placeOfFault (x0 : Int) (v : V_) : Option (Int × V_) :=
  some (v x0 7, v)
theorem cX3_placeOfFault_ok (l : Launch) {E : En_} {sz : Int} (hC : Cl_ E.2.2.2.2.2 sz) (hG : Pg_ E.2.2.2.2.2) {x0 : Int} {v : V_} {out : Int × V_} (T0 : (E.2.2.2.2.2 x0 ∧ ty_ x0 = 3 ∧ ln_ x0 = 0)) (h : fX3_placeOfFault x0 v = some out) : Met l yX3_placeOfFault [.code yX3_placeOfFault cX3_placeOfFault 1 (some FieldType.int)] (rm_ 0 0) (Pc_ E sz v [(2, x0)]) (Qc_ E sz 0 out.1 out.2) 0 0 (fun q => E.1 < q) := by
  refine met_G0 RX3 (by decide +kernel) rfl (Nat.le_of_ble_eq_true rfl) ?_
  intro p e s m args below meth c C hr hlk
  rw [fX3_placeOfFault] at h
  refine g_aload_n C (f := 0) dX3_placeOfFault_0 0 rfl ?_
  refine g_getf C (k := 7) (kd := 0) okX3 (by decide) kf_RX3_78 dX3_placeOfFault_1 (rg_ hC T0.1) T0.2.1 rfl ?_
  cases h
  exact g_iret C dX3_placeOfFault_4 hr hlk
theorem dX4_partOf_0 : decode cX4_partOf 0 = .ok (.iload_n 1, 1) := by decide +kernel
theorem dX4_partOf_1 : decode cX4_partOf 1 = .ok (.tableswitch 87 0 7 #[47, 52, 57, 62, 67, 72, 77, 82], 47) := by decide +kernel
theorem dX4_partOf_48 : decode cX4_partOf 48 = .ok (.aload_n 0, 1) := by decide +kernel
theorem dX4_partOf_49 : decode cX4_partOf 49 = .ok (.getfield 142, 3) := by decide +kernel
theorem dX4_partOf_52 : decode cX4_partOf 52 = .ok (.ireturn, 1) := by decide +kernel
theorem dX4_partOf_53 : decode cX4_partOf 53 = .ok (.aload_n 0, 1) := by decide +kernel
theorem dX4_partOf_54 : decode cX4_partOf 54 = .ok (.getfield 145, 3) := by decide +kernel
theorem dX4_partOf_57 : decode cX4_partOf 57 = .ok (.ireturn, 1) := by decide +kernel
theorem dX4_partOf_58 : decode cX4_partOf 58 = .ok (.aload_n 0, 1) := by decide +kernel
theorem dX4_partOf_59 : decode cX4_partOf 59 = .ok (.getfield 148, 3) := by decide +kernel
theorem dX4_partOf_62 : decode cX4_partOf 62 = .ok (.ireturn, 1) := by decide +kernel
theorem dX4_partOf_63 : decode cX4_partOf 63 = .ok (.aload_n 0, 1) := by decide +kernel
theorem dX4_partOf_64 : decode cX4_partOf 64 = .ok (.getfield 151, 3) := by decide +kernel
theorem dX4_partOf_67 : decode cX4_partOf 67 = .ok (.ireturn, 1) := by decide +kernel
theorem dX4_partOf_68 : decode cX4_partOf 68 = .ok (.aload_n 0, 1) := by decide +kernel
theorem dX4_partOf_69 : decode cX4_partOf 69 = .ok (.getfield 154, 3) := by decide +kernel
theorem dX4_partOf_72 : decode cX4_partOf 72 = .ok (.ireturn, 1) := by decide +kernel
theorem dX4_partOf_73 : decode cX4_partOf 73 = .ok (.aload_n 0, 1) := by decide +kernel
theorem dX4_partOf_74 : decode cX4_partOf 74 = .ok (.getfield 157, 3) := by decide +kernel
theorem dX4_partOf_77 : decode cX4_partOf 77 = .ok (.ireturn, 1) := by decide +kernel
theorem dX4_partOf_78 : decode cX4_partOf 78 = .ok (.aload_n 0, 1) := by decide +kernel
theorem dX4_partOf_79 : decode cX4_partOf 79 = .ok (.getfield 160, 3) := by decide +kernel
theorem dX4_partOf_82 : decode cX4_partOf 82 = .ok (.ireturn, 1) := by decide +kernel
theorem dX4_partOf_83 : decode cX4_partOf 83 = .ok (.aload_n 0, 1) := by decide +kernel
theorem dX4_partOf_84 : decode cX4_partOf 84 = .ok (.getfield 163, 3) := by decide +kernel
theorem dX4_partOf_87 : decode cX4_partOf 87 = .ok (.ireturn, 1) := by decide +kernel
theorem dX4_partOf_88 : decode cX4_partOf 88 = .ok (.iconst 0, 1) := by decide +kernel
theorem dX4_partOf_89 : decode cX4_partOf 89 = .ok (.ireturn, 1) := by decide +kernel
def fX4_partOf (x0 x1 : Int) (v : V_) : Option (Int × V_) :=
  if x1 = 0 then (
    some (v x0 4, v))
  else (
  if x1 = 1 then (
    some (v x0 9, v))
  else (
  if x1 = 2 then (
    some (v x0 8, v))
  else (
  if x1 = 3 then (
    some (v x0 6, v))
  else (
  if x1 = 4 then (
    some (v x0 10, v))
  else (
  if x1 = 5 then (
    some (v x0 5, v))
  else (
  if x1 = 6 then (
    some (v x0 3, v))
  else (
  if x1 = 7 then (
    some (v x0 11, v))
  else (
  some (0, v)))))))))
theorem cX4_partOf_ok (l : Launch) {E : En_} {sz : Int} (hC : Cl_ E.2.2.2.2.2 sz) {x0 x1 : Int} {v : V_} {out : Int × V_} (T0 : (E.2.2.2.2.2 x0 ∧ ty_ x0 = 10 ∧ ln_ x0 = 0)) (h : fX4_partOf x0 x1 v = some out) : Met l yX4_partOf [.code yX4_partOf cX4_partOf 2 (some FieldType.int)] (rm_ 0 0) (Pc_ E sz v [(2, x0), (0, x1)]) (Qc_ E sz 0 out.1 out.2) 0 0 (fun q => E.1 < q) := by
  refine met_G0 RX4 (by decide +kernel) rfl (Nat.le_of_ble_eq_true rfl) ?_
  intro p e s m args below meth c C hr hlk
  rw [fX4_partOf] at h
  refine g_iload_n C (f := 1) dX4_partOf_0 1 rfl ?_
  by_cases c1 : x1 = 0
  · replace h := if_t h c1
    refine g_tin C 48 dX4_partOf_1 0 c1 (by decide) (by decide) rfl rfl ?_
    refine g_aload_n C (f := 0) dX4_partOf_48 0 rfl ?_
    refine g_getf C (k := 4) (kd := 0) okX10 (by decide) kf_RX4_142 dX4_partOf_49 (rg_ hC T0.1) T0.2.1 rfl ?_
    cases h
    exact g_iret C dX4_partOf_52 hr hlk
  replace h := if_f h c1
  by_cases c2 : x1 = 1
  · replace h := if_t h c2
    refine g_tin C 53 dX4_partOf_1 1 c2 (by decide) (by decide) rfl rfl ?_
    refine g_aload_n C (f := 0) dX4_partOf_53 0 rfl ?_
    refine g_getf C (k := 9) (kd := 0) okX10 (by decide) kf_RX4_145 dX4_partOf_54 (rg_ hC T0.1) T0.2.1 rfl ?_
    cases h
    exact g_iret C dX4_partOf_57 hr hlk
  replace h := if_f h c2
  by_cases c3 : x1 = 2
  · replace h := if_t h c3
    refine g_tin C 58 dX4_partOf_1 2 c3 (by decide) (by decide) rfl rfl ?_
    refine g_aload_n C (f := 0) dX4_partOf_58 0 rfl ?_
    refine g_getf C (k := 8) (kd := 0) okX10 (by decide) kf_RX4_148 dX4_partOf_59 (rg_ hC T0.1) T0.2.1 rfl ?_
    cases h
    exact g_iret C dX4_partOf_62 hr hlk
  replace h := if_f h c3
  by_cases c4 : x1 = 3
  · replace h := if_t h c4
    refine g_tin C 63 dX4_partOf_1 3 c4 (by decide) (by decide) rfl rfl ?_
    refine g_aload_n C (f := 0) dX4_partOf_63 0 rfl ?_
    refine g_getf C (k := 6) (kd := 0) okX10 (by decide) kf_RX4_151 dX4_partOf_64 (rg_ hC T0.1) T0.2.1 rfl ?_
    cases h
    exact g_iret C dX4_partOf_67 hr hlk
  replace h := if_f h c4
  by_cases c5 : x1 = 4
  · replace h := if_t h c5
    refine g_tin C 68 dX4_partOf_1 4 c5 (by decide) (by decide) rfl rfl ?_
    refine g_aload_n C (f := 0) dX4_partOf_68 0 rfl ?_
    refine g_getf C (k := 10) (kd := 0) okX10 (by decide) kf_RX4_154 dX4_partOf_69 (rg_ hC T0.1) T0.2.1 rfl ?_
    cases h
    exact g_iret C dX4_partOf_72 hr hlk
  replace h := if_f h c5
  by_cases c6 : x1 = 5
  · replace h := if_t h c6
    refine g_tin C 73 dX4_partOf_1 5 c6 (by decide) (by decide) rfl rfl ?_
    refine g_aload_n C (f := 0) dX4_partOf_73 0 rfl ?_
    refine g_getf C (k := 5) (kd := 0) okX10 (by decide) kf_RX4_157 dX4_partOf_74 (rg_ hC T0.1) T0.2.1 rfl ?_
    cases h
    exact g_iret C dX4_partOf_77 hr hlk
  replace h := if_f h c6
  by_cases c7 : x1 = 6
  · replace h := if_t h c7
    refine g_tin C 78 dX4_partOf_1 6 c7 (by decide) (by decide) rfl rfl ?_
    refine g_aload_n C (f := 0) dX4_partOf_78 0 rfl ?_
    refine g_getf C (k := 3) (kd := 0) okX10 (by decide) kf_RX4_160 dX4_partOf_79 (rg_ hC T0.1) T0.2.1 rfl ?_
    cases h
    exact g_iret C dX4_partOf_82 hr hlk
  replace h := if_f h c7
  by_cases c8 : x1 = 7
  · replace h := if_t h c8
    refine g_tin C 83 dX4_partOf_1 7 c8 (by decide) (by decide) rfl rfl ?_
    refine g_aload_n C (f := 0) dX4_partOf_83 0 rfl ?_
    refine g_getf C (k := 11) (kd := 0) okX10 (by decide) kf_RX4_163 dX4_partOf_84 (rg_ hC T0.1) T0.2.1 rfl ?_
    cases h
    exact g_iret C dX4_partOf_87 hr hlk
  replace h := if_f h c8
  refine g_tdef C (x := x1) 88 dX4_partOf_1 (by intro a ha h1 h2; exact absurd h2 (by omega)) rfl ?_
  refine g_iconst C (n := 0) dX4_partOf_88 (by decide) ?_
  cases h
  exact g_iret C dX4_partOf_89 hr hlk
theorem dX4_added_0 : decode cX4_added 0 = .ok (.iconst 0, 1) := by decide +kernel
theorem dX4_added_1 : decode cX4_added 1 = .ok (.istore_n 2, 1) := by decide +kernel
theorem dX4_added_2 : decode cX4_added 2 = .ok (.iconst 0, 1) := by decide +kernel
theorem dX4_added_3 : decode cX4_added 3 = .ok (.istore_n 3, 1) := by decide +kernel
theorem dX4_added_4 : decode cX4_added 4 = .ok (.iload_n 3, 1) := by decide +kernel
theorem dX4_added_5 : decode cX4_added 5 = .ok (.aload_n 0, 1) := by decide +kernel
theorem dX4_added_6 : decode cX4_added 6 = .ok (.getfield 35, 3) := by decide +kernel
theorem dX4_added_9 : decode cX4_added 9 = .ok (.if_icmp .ge 22, 3) := by decide +kernel
theorem dX4_added_12 : decode cX4_added 12 = .ok (.iload_n 2, 1) := by decide +kernel
theorem dX4_added_13 : decode cX4_added 13 = .ok (.aload_n 0, 1) := by decide +kernel
theorem dX4_added_14 : decode cX4_added 14 = .ok (.getfield 11, 3) := by decide +kernel
theorem dX4_added_17 : decode cX4_added 17 = .ok (.iload_n 3, 1) := by decide +kernel
theorem dX4_added_18 : decode cX4_added 18 = .ok (.aaload, 1) := by decide +kernel
theorem dX4_added_19 : decode cX4_added 19 = .ok (.iload_n 1, 1) := by decide +kernel
theorem dX4_added_20 : decode cX4_added 20 = .ok (.invokestatic 138, 3) := by decide +kernel
theorem dX4_added_23 : decode cX4_added 23 = .ok (.iadd, 1) := by decide +kernel
theorem dX4_added_24 : decode cX4_added 24 = .ok (.istore_n 2, 1) := by decide +kernel
theorem dX4_added_25 : decode cX4_added 25 = .ok (.iinc 3 1, 3) := by decide +kernel
theorem dX4_added_28 : decode cX4_added 28 = .ok (.goto (-24), 3) := by decide +kernel
theorem dX4_added_31 : decode cX4_added 31 = .ok (.iload_n 2, 1) := by decide +kernel
theorem dX4_added_32 : decode cX4_added 32 = .ok (.ireturn, 1) := by decide +kernel
def fX4_added_4 : Nat → Int → Int → Int → Int → V_ → Option (Int × V_)
  | 0, _, _, _, _, _ => none
  | n + 1, x0, x1, x2, x3, v =>
    if (v x0 0) ≤ x3 then (
      some (x2, v))
    else (
      ck_ (0 ≤ x3 ∧ x3 < 8) (
      bd_ (fX4_partOf ((x0 + 1) + (10 + 75 * x3)) x1 v) fun q5 =>
      lt_ (wr_ (x2 + q5.1)) fun y6 =>
      lt_ (wr_ (x3 + 1)) fun y7 =>
      (fX4_added_4 n) x0 x1 y6 y7 q5.2))
def fX4_added (x0 x1 : Int) (v : V_) : Option (Int × V_) :=
  fX4_added_4 fu_ x0 x1 0 0 v
section
variable {E : En_} {p : Program} {l : Launch} {e : Env} {s : State} {m : MethodId} {args : Array Value} {below : List Frame} {meth : Method} {c : Code} {sz : Int}
theorem tX4_added_4 (C : MC_ E p s m c cX4_added 4 RX4) (hr : meth.sig.returnType = (some FieldType.int)) (hlk : meth.locks = false) (hC : Cl_ E.2.2.2.2.2 sz) {out : Int × V_} : ∀ (n : Nat) (x0 x1 x2 x3 : Int) (v : V_), (E.2.2.2.2.2 x0 ∧ ty_ x0 = 4 ∧ ln_ x0 = 0) → fX4_added_4 n x0 x1 x2 x3 v = some out → G_ E p l e (rm_ 1 21) s m args below meth c 4 sz (Q_ E below args s sz sz 0 out.1 out.2) 4 [(0, (2, x0)), (1, (0, x1)), (2, (0, x2)), (3, (0, x3))] [] v sz := by
  intro n
  induction n with
  | zero =>
    intro x0 x1 x2 x3 v T0 h
    cases h
  | succ n H_4 =>
    intro x0 x1 x2 x3 v T0 h
    rw [fX4_added_4] at h
    refine g_iload_n C (f := 3) dX4_added_4 3 rfl ?_
    refine g_aload_n C (f := 0) dX4_added_5 0 rfl ?_
    refine g_getf C (k := 0) (kd := 0) okX4 (by decide) kf_RX4_35 dX4_added_6 (rg_ hC T0.1) T0.2.1 rfl ?_
    refine g_icmp_ge C 31 dX4_added_9 rfl (fun c1 => ?_) (fun c1 => ?_)
    · replace h := if_t h c1
      refine g_iload_n C (f := 2) dX4_added_31 2 rfl ?_
      cases h
      exact g_iret C dX4_added_32 hr hlk
    · replace h := if_f h c1
      refine g_iload_n C (f := 2) dX4_added_12 2 rfl ?_
      refine g_aload_n C (f := 0) dX4_added_13 0 rfl ?_
      have F2 := fX4_2 hC T0.1 T0.2.1
      refine g_getR C (k := 2) (o := 1) okX4 (by decide) kf_RX4_11 dX4_added_14 hC T0.1 T0.2.1 rfl rfl ?_
      refine g_iload_n C (f := 3) dX4_added_17 3 rfl ?_
      obtain ⟨c3, h⟩ := ck_e h
      have F4 := fE_traces (i := x3) hC F2.1 F2.2.1 F2.2.2 c3
      refine g_aald C 27 8 10 75 dX4_added_18 hC F2.1 F2.2.1 F2.2.2 c3 (by decide) oA_traces ?_
      refine g_iload_n C (f := 1) dX4_added_19 1 rfl ?_
      obtain ⟨q5, eq5, h⟩ := bd_e h
      refine g_cS C [(2, (x0 + 1) + (10 + 75 * x3)), (0, x1)] (cX4_partOf_ok l hC F4 eq5) km_RX4_138 cs_X4_partOf rfl (by decide) rfl rfl (Nat.le_of_ble_eq_true rfl) dX4_added_20 ?_
      refine g_iadd C dX4_added_23 ?_
      obtain ⟨y6, ey6, h⟩ := lt_e h
      refine g_set C ey6 ?_
      refine g_istore_n C (f := 2) (ls' := [(2, (0, y6)), (0, (2, x0)), (1, (0, x1)), (3, (0, x3))]) dX4_added_24 (by decide) rfl ?_
      obtain ⟨y7, ey7, h⟩ := lt_e h
      refine g_iincx C (ls' := [(3, (0, y7)), (2, (0, y6)), (0, (2, x0)), (1, (0, x1))]) ey7 dX4_added_25 3 rfl (by decide) (by decide) rfl ?_
      refine g_goto C 4 dX4_added_28 rfl ?_
      refine g_sub [2, 3, 1, 0] rfl rfl ?_
      exact H_4 _ _ _ _ _ T0 h
end
theorem cX4_added_ok (l : Launch) {E : En_} {sz : Int} (hC : Cl_ E.2.2.2.2.2 sz) {x0 x1 : Int} {v : V_} {out : Int × V_} (T0 : (E.2.2.2.2.2 x0 ∧ ty_ x0 = 4 ∧ ln_ x0 = 0)) (h : fX4_added x0 x1 v = some out) : Met l yX4_added [.code yX4_added cX4_added 4 (some FieldType.int)] (rm_ 1 21) (Pc_ E sz v [(2, x0), (0, x1)]) (Qc_ E sz 0 out.1 out.2) 0 0 (fun q => E.1 < q) := by
  refine met_G0 RX4 (by decide +kernel) rfl (Nat.le_of_ble_eq_true rfl) ?_
  intro p e s m args below meth c C hr hlk
  rw [fX4_added] at h
  refine g_iconst C (n := 0) dX4_added_0 (by decide) ?_
  refine g_istore_n C (f := 2) (ls' := [(2, (0, 0)), (0, (2, x0)), (1, (0, x1))]) dX4_added_1 (by decide) rfl ?_
  refine g_iconst C (n := 0) dX4_added_2 (by decide) ?_
  refine g_istore_n C (f := 3) (ls' := [(3, (0, 0)), (2, (0, 0)), (0, (2, x0)), (1, (0, x1))]) dX4_added_3 (by decide) rfl ?_
  refine g_sub [2, 3, 1, 0] rfl rfl ?_
  exact tX4_added_4 C hr hlk hC _ _ _ _ _ _ T0 h
theorem dX10_beginWith_0 : decode cX10_beginWith 0 = .ok (.aload_n 0, 1) := by decide +kernel
theorem dX10_beginWith_1 : decode cX10_beginWith 1 = .ok (.iconst 1, 1) := by decide +kernel
theorem dX10_beginWith_2 : decode cX10_beginWith 2 = .ok (.putfield 34, 3) := by decide +kernel
theorem dX10_beginWith_5 : decode cX10_beginWith 5 = .ok (.aload_n 0, 1) := by decide +kernel
theorem dX10_beginWith_6 : decode cX10_beginWith 6 = .ok (.getfield 9, 3) := by decide +kernel
theorem dX10_beginWith_9 : decode cX10_beginWith 9 = .ok (.iconst 0, 1) := by decide +kernel
theorem dX10_beginWith_10 : decode cX10_beginWith 10 = .ok (.iload_n 1, 1) := by decide +kernel
theorem dX10_beginWith_11 : decode cX10_beginWith 11 = .ok (.iastore, 1) := by decide +kernel
theorem dX10_beginWith_12 : decode cX10_beginWith 12 = .ok (.return_, 1) := by decide +kernel
def fX10_beginWith (x0 x1 : Int) (v : V_) : Option (Int × V_) :=
  lt_ (up_ v x0 1 1) fun v1 =>
  lt_ (up_ v1 (x0 + 1) 0 x1) fun v3 =>
  some (0, v3)
theorem cX10_beginWith_ok (l : Launch) {E : En_} {sz : Int} (hC : Cl_ E.2.2.2.2.2 sz) {x0 x1 : Int} {v : V_} {out : Int × V_} (T0 : (E.2.2.2.2.2 x0 ∧ ty_ x0 = 10 ∧ ln_ x0 = 0)) (h : fX10_beginWith x0 x1 v = some out) : Met l yX10_beginWith [.code yX10_beginWith cX10_beginWith 2 (none : Option FieldType)] (rm_ 0 0) (Pc_ E sz v [(2, x0), (0, x1)]) (Qc_ E sz 9 out.1 out.2) 0 0 (fun q => E.1 < q) := by
  refine met_G0 RX10 (by decide +kernel) rfl (Nat.le_of_ble_eq_true rfl) ?_
  intro p e s m args below meth c C hr hlk
  rw [fX10_beginWith] at h
  refine g_aload_n C (f := 0) dX10_beginWith_0 0 rfl ?_
  refine g_iconst C (n := 1) dX10_beginWith_1 (by decide) ?_
  obtain ⟨v1, ev1, h⟩ := lt_e h
  refine g_putf C (k := 1) (kd := 0) okX10 (by decide) kf_RX10_34 dX10_beginWith_2 (rg_ hC T0.1) T0.2.1 rfl rfl nvI (Or.inl rfl) v1 ev1 ?_
  refine g_aload_n C (f := 0) dX10_beginWith_5 0 rfl ?_
  have F2 := fX10_0 hC T0.1 T0.2.1
  refine g_getR C (k := 0) (o := 1) okX10 (by decide) kf_RX10_9 dX10_beginWith_6 hC T0.1 T0.2.1 rfl rfl ?_
  refine g_iconst C (n := 0) dX10_beginWith_9 (by decide) ?_
  refine g_iload_n C (f := 1) dX10_beginWith_10 1 rfl ?_
  obtain ⟨v3, ev3, h⟩ := lt_e h
  refine g_iast C 4 dX10_beginWith_11 (rg_ hC F2.1) F2.2.1 F2.2.2 (by decide) v3 ev3 ?_
  cases h
  exact g_vret C dX10_beginWith_12 hr hlk
