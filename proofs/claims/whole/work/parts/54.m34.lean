theorem dX12_saved_0 : decode cX12_saved 0 = .ok (.iload_n 1, 1) := by decide +kernel
theorem dX12_saved_1 : decode cX12_saved 1 = .ok (.iconst 0, 1) := by decide +kernel
theorem dX12_saved_2 : decode cX12_saved 2 = .ok (.iconst 3, 1) := by decide +kernel
theorem dX12_saved_3 : decode cX12_saved 3 = .ok (.invokestatic 334, 3) := by decide +kernel
theorem dX12_saved_6 : decode cX12_saved 6 = .ok (.ifCond .ne 5, 3) := by decide +kernel
theorem dX12_saved_9 : decode cX12_saved 9 = .ok (.iconst (-1), 1) := by decide +kernel
theorem dX12_saved_10 : decode cX12_saved 10 = .ok (.ireturn, 1) := by decide +kernel
theorem dX12_saved_11 : decode cX12_saved 11 = .ok (.aload_n 0, 1) := by decide +kernel
theorem dX12_saved_12 : decode cX12_saved 12 = .ok (.invokevirtual 542, 3) := by decide +kernel
theorem dX12_saved_15 : decode cX12_saved 15 = .ok (.aload_n 0, 1) := by decide +kernel
theorem dX12_saved_16 : decode cX12_saved 16 = .ok (.getfield 88, 3) := by decide +kernel
theorem dX12_saved_19 : decode cX12_saved 19 = .ok (.bipush 39, 2) := by decide +kernel
theorem dX12_saved_21 : decode cX12_saved 21 = .ok (.iload_n 1, 1) := by decide +kernel
theorem dX12_saved_22 : decode cX12_saved 22 = .ok (.iadd, 1) := by decide +kernel
theorem dX12_saved_23 : decode cX12_saved 23 = .ok (.iaload, 1) := by decide +kernel
theorem dX12_saved_24 : decode cX12_saved 24 = .ok (.iconst 4, 1) := by decide +kernel
theorem dX12_saved_25 : decode cX12_saved 25 = .ok (.if_icmp .ne 5, 3) := by decide +kernel
theorem dX12_saved_28 : decode cX12_saved 28 = .ok (.iconst 0, 1) := by decide +kernel
theorem dX12_saved_29 : decode cX12_saved 29 = .ok (.ireturn, 1) := by decide +kernel
theorem dX12_saved_30 : decode cX12_saved 30 = .ok (.aload_n 0, 1) := by decide +kernel
theorem dX12_saved_31 : decode cX12_saved 31 = .ok (.getfield 88, 3) := by decide +kernel
theorem dX12_saved_34 : decode cX12_saved 34 = .ok (.bipush 39, 2) := by decide +kernel
theorem dX12_saved_36 : decode cX12_saved 36 = .ok (.iload_n 1, 1) := by decide +kernel
theorem dX12_saved_37 : decode cX12_saved 37 = .ok (.iadd, 1) := by decide +kernel
theorem dX12_saved_38 : decode cX12_saved 38 = .ok (.dup2, 1) := by decide +kernel
theorem dX12_saved_39 : decode cX12_saved 39 = .ok (.iaload, 1) := by decide +kernel
theorem dX12_saved_40 : decode cX12_saved 40 = .ok (.iconst 1, 1) := by decide +kernel
theorem dX12_saved_41 : decode cX12_saved 41 = .ok (.iadd, 1) := by decide +kernel
theorem dX12_saved_42 : decode cX12_saved 42 = .ok (.iastore, 1) := by decide +kernel
theorem dX12_saved_43 : decode cX12_saved 43 = .ok (.aload_n 0, 1) := by decide +kernel
theorem dX12_saved_44 : decode cX12_saved 44 = .ok (.iconst 0, 1) := by decide +kernel
theorem dX12_saved_45 : decode cX12_saved 45 = .ok (.putfield 287, 3) := by decide +kernel
theorem dX12_saved_48 : decode cX12_saved 48 = .ok (.iconst 0, 1) := by decide +kernel
theorem dX12_saved_49 : decode cX12_saved 49 = .ok (.istore_n 2, 1) := by decide +kernel
theorem dX12_saved_50 : decode cX12_saved 50 = .ok (.iconst 0, 1) := by decide +kernel
theorem dX12_saved_51 : decode cX12_saved 51 = .ok (.istore_n 3, 1) := by decide +kernel
theorem dX12_saved_52 : decode cX12_saved 52 = .ok (.iload_n 3, 1) := by decide +kernel
theorem dX12_saved_53 : decode cX12_saved 53 = .ok (.aload_n 0, 1) := by decide +kernel
theorem dX12_saved_54 : decode cX12_saved 54 = .ok (.getfield 402, 3) := by decide +kernel
theorem dX12_saved_57 : decode cX12_saved 57 = .ok (.if_icmp .ge 50, 3) := by decide +kernel
theorem dX12_saved_60 : decode cX12_saved 60 = .ok (.aload_n 0, 1) := by decide +kernel
theorem dX12_saved_61 : decode cX12_saved 61 = .ok (.iload_n 3, 1) := by decide +kernel
theorem dX12_saved_62 : decode cX12_saved 62 = .ok (.invokevirtual 521, 3) := by decide +kernel
theorem dX12_saved_65 : decode cX12_saved 65 = .ok (.istore 4, 2) := by decide +kernel
theorem dX12_saved_67 : decode cX12_saved 67 = .ok (.aload_n 0, 1) := by decide +kernel
theorem dX12_saved_68 : decode cX12_saved 68 = .ok (.iload_n 3, 1) := by decide +kernel
theorem dX12_saved_69 : decode cX12_saved 69 = .ok (.invokevirtual 488, 3) := by decide +kernel
theorem dX12_saved_72 : decode cX12_saved 72 = .ok (.aload_n 0, 1) := by decide +kernel
theorem dX12_saved_73 : decode cX12_saved 73 = .ok (.iload_n 3, 1) := by decide +kernel
theorem dX12_saved_74 : decode cX12_saved 74 = .ok (.invokevirtual 491, 3) := by decide +kernel
theorem dX12_saved_77 : decode cX12_saved 77 = .ok (.iload_n 2, 1) := by decide +kernel
theorem dX12_saved_78 : decode cX12_saved 78 = .ok (.iload 4, 2) := by decide +kernel
theorem dX12_saved_80 : decode cX12_saved 80 = .ok (.aload_n 0, 1) := by decide +kernel
theorem dX12_saved_81 : decode cX12_saved 81 = .ok (.iload_n 3, 1) := by decide +kernel
theorem dX12_saved_82 : decode cX12_saved 82 = .ok (.invokevirtual 521, 3) := by decide +kernel
theorem dX12_saved_85 : decode cX12_saved 85 = .ok (.isub, 1) := by decide +kernel
theorem dX12_saved_86 : decode cX12_saved 86 = .ok (.aload_n 0, 1) := by decide +kernel
theorem dX12_saved_87 : decode cX12_saved 87 = .ok (.aload_n 0, 1) := by decide +kernel
theorem dX12_saved_88 : decode cX12_saved 88 = .ok (.getfield 112, 3) := by decide +kernel
theorem dX12_saved_91 : decode cX12_saved 91 = .ok (.iconst 4, 1) := by decide +kernel
theorem dX12_saved_92 : decode cX12_saved 92 = .ok (.iload_n 3, 1) := by decide +kernel
theorem dX12_saved_93 : decode cX12_saved 93 = .ok (.imul, 1) := by decide +kernel
theorem dX12_saved_94 : decode cX12_saved 94 = .ok (.iaload, 1) := by decide +kernel
theorem dX12_saved_95 : decode cX12_saved 95 = .ok (.invokevirtual 418, 3) := by decide +kernel
theorem dX12_saved_98 : decode cX12_saved 98 = .ok (.imul, 1) := by decide +kernel
theorem dX12_saved_99 : decode cX12_saved 99 = .ok (.iadd, 1) := by decide +kernel
theorem dX12_saved_100 : decode cX12_saved 100 = .ok (.istore_n 2, 1) := by decide +kernel
theorem dX12_saved_101 : decode cX12_saved 101 = .ok (.iinc 3 1, 3) := by decide +kernel
theorem dX12_saved_104 : decode cX12_saved 104 = .ok (.goto (-52), 3) := by decide +kernel
theorem dX12_saved_107 : decode cX12_saved 107 = .ok (.iload_n 2, 1) := by decide +kernel
theorem dX12_saved_108 : decode cX12_saved 108 = .ok (.ireturn, 1) := by decide +kernel
def fX12_saved_52 : Nat → Int → Int → Int → V_ → Option (Int × V_)
  | 0, _, _, _, _ => none
  | n + 1, x0, x2, x3, v =>
    if (v x0 52) ≤ x3 then (
      some (x2, v))
    else (
      bd_ (fX12_lengthOf x0 x3 v) fun q13 =>
      bd_ (fX12_fillsNeeds x0 x3 q13.2) fun q14 =>
      bd_ (fX12_laysTrace x0 x3 q14.2) fun q15 =>
      bd_ (fX12_lengthOf x0 x3 q15.2) fun q16 =>
      ck_ (0 ≤ wr_ (4 * x3) ∧ wr_ (4 * x3) < 32) (
      bd_ (fX12_begunOf x0 (q16.2 (x0 + 32) (wr_ (4 * x3))) q16.2) fun q19 =>
      lt_ (wr_ (x2 + (wr_ ((wr_ (q13.1 - q16.1)) * q19.1)))) fun y20 =>
      lt_ (wr_ (x3 + 1)) fun y21 =>
      (fX12_saved_52 n) x0 y20 y21 q19.2))
def fX12_saved (x0 x1 : Int) (v : V_) : Option (Int × V_) :=
  bd_ (fX12_in x1 0 3 v) fun q1 =>
  if q1.1 = 0 then (
    some ((-1), q1.2))
  else (
    bd_ (fX12_plansAll x0 q1.2) fun q3 =>
    ck_ (0 ≤ wr_ (39 + x1) ∧ wr_ (39 + x1) < 47) (
    if (q3.2 (x0 + 24) (wr_ (39 + x1))) = 4 then (
      some (0, q3.2))
    else (
      ck_ (0 ≤ wr_ (39 + x1) ∧ wr_ (39 + x1) < 47) (
      ck_ (0 ≤ wr_ (39 + x1) ∧ wr_ (39 + x1) < 47) (
      lt_ (up_ q3.2 (x0 + 24) (wr_ (39 + x1)) (wr_ ((q3.2 (x0 + 24) (wr_ (39 + x1))) + 1))) fun v10 =>
      lt_ (up_ v10 x0 69 0) fun v11 =>
      fX12_saved_52 fu_ x0 0 0 v11)))))
section
variable {E : En_} {p : Program} {l : Launch} {e : Env} {s : State} {m : MethodId} {args : Array Value} {below : List Frame} {meth : Method} {c : Code} {sz : Int}
theorem tX12_saved_52 (C : MC_ E p s m c cX12_saved 5 RX12) (hr : meth.sig.returnType = (some FieldType.int)) (hlk : meth.locks = false) (hC : Cl_ E.2.2.2.2.2 sz) {out : Int × V_} : ∀ (n : Nat) (x0 x2 x3 : Int) (v : V_), (E.2.2.2.2.2 x0 ∧ ty_ x0 = 12 ∧ ln_ x0 = 0) → fX12_saved_52 n x0 x2 x3 v = some out → G_ E p l e (rm_ 6 133) s m args below meth c 5 sz (Q_ E below args s sz sz 0 out.1 out.2) 52 [(0, (2, x0)), (2, (0, x2)), (3, (0, x3))] [] v sz := by
  intro n
  induction n with
  | zero =>
    intro x0 x2 x3 v T0 h
    cases h
  | succ n H_52 =>
    intro x0 x2 x3 v T0 h
    rw [fX12_saved_52] at h
    refine g_iload_n C (f := 3) dX12_saved_52 2 rfl ?_
    refine g_aload_n C (f := 0) dX12_saved_53 0 rfl ?_
    refine g_getf C (k := 52) (kd := 0) okX12 (by decide) kf_RX12_402 dX12_saved_54 (rg_ hC T0.1) T0.2.1 rfl ?_
    refine g_icmp_ge C 107 dX12_saved_57 rfl (fun c12 => ?_) (fun c12 => ?_)
    · replace h := if_t h c12
      refine g_iload_n C (f := 2) dX12_saved_107 1 rfl ?_
      cases h
      exact g_iret C dX12_saved_108 hr hlk
    · replace h := if_f h c12
      refine g_aload_n C (f := 0) dX12_saved_60 0 rfl ?_
      refine g_iload_n C (f := 3) dX12_saved_61 2 rfl ?_
      obtain ⟨q13, eq13, h⟩ := bd_e h
      refine g_cV C [(0, x3)] (cX12_lengthOf_ok l hC T0 eq13) okX12 T0.2.1 (rg_ hC T0.1) km_RX12_521 cv_X12_lengthOf rfl (by decide) rfl rfl (Nat.le_of_ble_eq_true rfl) dX12_saved_62 ?_
      refine g_istore C (i := 4) (ls' := [(4, (0, q13.1)), (0, (2, x0)), (2, (0, x2)), (3, (0, x3))]) dX12_saved_65 (by decide) rfl ?_
      refine g_aload_n C (f := 0) dX12_saved_67 1 rfl ?_
      refine g_iload_n C (f := 3) dX12_saved_68 3 rfl ?_
      obtain ⟨q14, eq14, h⟩ := bd_e h
      refine g_cV C [(0, x3)] (cX12_fillsNeeds_ok l hC T0 eq14) okX12 T0.2.1 (rg_ hC T0.1) km_RX12_488 cv_X12_fillsNeeds rfl (by decide) rfl rfl (Nat.le_of_ble_eq_true rfl) dX12_saved_69 ?_
      refine g_aload_n C (f := 0) dX12_saved_72 1 rfl ?_
      refine g_iload_n C (f := 3) dX12_saved_73 3 rfl ?_
      obtain ⟨q15, eq15, h⟩ := bd_e h
      refine g_cV C [(0, x3)] (cX12_laysTrace_ok l hC T0 eq15) okX12 T0.2.1 (rg_ hC T0.1) km_RX12_491 cv_X12_laysTrace rfl (by decide) rfl rfl (Nat.le_of_ble_eq_true rfl) dX12_saved_74 ?_
      refine g_iload_n C (f := 2) dX12_saved_77 2 rfl ?_
      refine g_iload C (i := 4) dX12_saved_78 0 rfl ?_
      refine g_aload_n C (f := 0) dX12_saved_80 1 rfl ?_
      refine g_iload_n C (f := 3) dX12_saved_81 3 rfl ?_
      obtain ⟨q16, eq16, h⟩ := bd_e h
      refine g_cV C [(0, x3)] (cX12_lengthOf_ok l hC T0 eq16) okX12 T0.2.1 (rg_ hC T0.1) km_RX12_521 cv_X12_lengthOf rfl (by decide) rfl rfl (Nat.le_of_ble_eq_true rfl) dX12_saved_82 ?_
      refine g_isub C dX12_saved_85 ?_
      refine g_aload_n C (f := 0) dX12_saved_86 1 rfl ?_
      refine g_aload_n C (f := 0) dX12_saved_87 1 rfl ?_
      have F17 := fX12_50 hC T0.1 T0.2.1
      refine g_getR C (k := 50) (o := 32) okX12 (by decide) kf_RX12_112 dX12_saved_88 hC T0.1 T0.2.1 rfl rfl ?_
      refine g_iconst C (n := 4) dX12_saved_91 (by decide) ?_
      refine g_iload_n C (f := 3) dX12_saved_92 3 rfl ?_
      refine g_imul C dX12_saved_93 ?_
      obtain ⟨c18, h⟩ := ck_e h
      refine g_iald C 32 dX12_saved_94 (rg_ hC F17.1) F17.2.1 F17.2.2 c18 ?_
      obtain ⟨q19, eq19, h⟩ := bd_e h
      refine g_cV C [(0, q16.2 (x0 + 32) (wr_ (4 * x3)))] (cX12_begunOf_ok l hC T0 eq19) okX12 T0.2.1 (rg_ hC T0.1) km_RX12_418 cv_X12_begunOf rfl (by decide) rfl rfl (Nat.le_of_ble_eq_true rfl) dX12_saved_95 ?_
      refine g_imul C dX12_saved_98 ?_
      refine g_iadd C dX12_saved_99 ?_
      obtain ⟨y20, ey20, h⟩ := lt_e h
      refine g_set C ey20 ?_
      refine g_istore_n C (f := 2) (ls' := [(2, (0, y20)), (4, (0, q13.1)), (0, (2, x0)), (3, (0, x3))]) dX12_saved_100 (by decide) rfl ?_
      obtain ⟨y21, ey21, h⟩ := lt_e h
      refine g_iincx C (ls' := [(3, (0, y21)), (2, (0, y20)), (4, (0, q13.1)), (0, (2, x0))]) ey21 dX12_saved_101 3 rfl (by decide) (by decide) rfl ?_
      refine g_goto C 52 dX12_saved_104 rfl ?_
      refine g_sub [3, 1, 0] rfl rfl ?_
      exact H_52 _ _ _ _ T0 h
end
theorem cX12_saved_ok (l : Launch) {E : En_} {sz : Int} (hC : Cl_ E.2.2.2.2.2 sz) {x0 x1 : Int} {v : V_} {out : Int × V_} (T0 : (E.2.2.2.2.2 x0 ∧ ty_ x0 = 12 ∧ ln_ x0 = 0)) (h : fX12_saved x0 x1 v = some out) : Met l yX12_saved [.code yX12_saved cX12_saved 5 (some FieldType.int)] (rm_ 6 133) (Pc_ E sz v [(2, x0), (0, x1)]) (Qc_ E sz 0 out.1 out.2) 0 0 (fun q => E.1 < q) := by
  refine met_G0 RX12 (by decide +kernel) rfl (Nat.le_of_ble_eq_true rfl) ?_
  intro p e s m args below meth c C hr hlk
  rw [fX12_saved] at h
  refine g_iload_n C (f := 1) dX12_saved_0 1 rfl ?_
  refine g_iconst C (n := 0) dX12_saved_1 (by decide) ?_
  refine g_iconst C (n := 3) dX12_saved_2 (by decide) ?_
  obtain ⟨q1, eq1, h⟩ := bd_e h
  refine g_cS C [(0, x1), (0, 0), (0, 3)] (cX12_in_ok l hC eq1) km_RX12_334 cs_X12_in rfl (by decide) rfl rfl (Nat.le_of_ble_eq_true rfl) dX12_saved_3 ?_
  refine g_if_ne C 11 dX12_saved_6 rfl (fun c2 => ?_) (fun c2 => ?_)
  · replace h := if_f h c2
    refine g_aload_n C (f := 0) dX12_saved_11 0 rfl ?_
    obtain ⟨q3, eq3, h⟩ := bd_e h
    refine g_cV C [] (cX12_plansAll_ok l hC T0 eq3) okX12 T0.2.1 (rg_ hC T0.1) km_RX12_542 cv_X12_plansAll rfl (by decide) rfl rfl (Nat.le_of_ble_eq_true rfl) dX12_saved_12 ?_
    refine g_aload_n C (f := 0) dX12_saved_15 0 rfl ?_
    have F4 := fX12_37 hC T0.1 T0.2.1
    refine g_getR C (k := 37) (o := 24) okX12 (by decide) kf_RX12_88 dX12_saved_16 hC T0.1 T0.2.1 rfl rfl ?_
    refine g_bipush C (n := 39) dX12_saved_19 (by decide) ?_
    refine g_iload_n C (f := 1) dX12_saved_21 1 rfl ?_
    refine g_iadd C dX12_saved_22 ?_
    obtain ⟨c5, h⟩ := ck_e h
    refine g_iald C 47 dX12_saved_23 (rg_ hC F4.1) F4.2.1 F4.2.2 c5 ?_
    refine g_iconst C (n := 4) dX12_saved_24 (by decide) ?_
    refine g_icmp_ne C 30 dX12_saved_25 rfl (fun c6 => ?_) (fun c6 => ?_)
    · replace h := if_f h c6
      refine g_aload_n C (f := 0) dX12_saved_30 0 rfl ?_
      have F7 := fX12_37 hC T0.1 T0.2.1
      refine g_getR C (k := 37) (o := 24) okX12 (by decide) kf_RX12_88 dX12_saved_31 hC T0.1 T0.2.1 rfl rfl ?_
      refine g_bipush C (n := 39) dX12_saved_34 (by decide) ?_
      refine g_iload_n C (f := 1) dX12_saved_36 1 rfl ?_
      refine g_iadd C dX12_saved_37 ?_
      refine g_dup2 C (Nat.ne_of_beq_eq_false rfl) (Nat.ne_of_beq_eq_false rfl) dX12_saved_38 ?_
      obtain ⟨c8, h⟩ := ck_e h
      refine g_iald C 47 dX12_saved_39 (rg_ hC F7.1) F7.2.1 F7.2.2 c8 ?_
      refine g_iconst C (n := 1) dX12_saved_40 (by decide) ?_
      refine g_iadd C dX12_saved_41 ?_
      obtain ⟨c9, h⟩ := ck_e h
      obtain ⟨v10, ev10, h⟩ := lt_e h
      refine g_iast C 47 dX12_saved_42 (rg_ hC F7.1) F7.2.1 F7.2.2 c9 v10 ev10 ?_
      refine g_aload_n C (f := 0) dX12_saved_43 0 rfl ?_
      refine g_iconst C (n := 0) dX12_saved_44 (by decide) ?_
      obtain ⟨v11, ev11, h⟩ := lt_e h
      refine g_putf C (k := 69) (kd := 0) okX12 (by decide) kf_RX12_287 dX12_saved_45 (rg_ hC T0.1) T0.2.1 rfl rfl (nvZ (Or.inl rfl)) (Or.inl rfl) v11 ev11 ?_
      refine g_iconst C (n := 0) dX12_saved_48 (by decide) ?_
      refine g_istore_n C (f := 2) (ls' := [(2, (0, 0)), (0, (2, x0)), (1, (0, x1))]) dX12_saved_49 (by decide) rfl ?_
      refine g_iconst C (n := 0) dX12_saved_50 (by decide) ?_
      refine g_istore_n C (f := 3) (ls' := [(3, (0, 0)), (2, (0, 0)), (0, (2, x0)), (1, (0, x1))]) dX12_saved_51 (by decide) rfl ?_
      refine g_sub [2, 1, 0] rfl rfl ?_
      exact tX12_saved_52 C hr hlk hC _ _ _ _ _ T0 h
    · replace h := if_t h c6
      refine g_iconst C (n := 0) dX12_saved_28 (by decide) ?_
      cases h
      exact g_iret C dX12_saved_29 hr hlk
  · replace h := if_t h c2
    refine g_iconst C (n := (-1)) dX12_saved_9 (by decide) ?_
    cases h
    exact g_iret C dX12_saved_10 hr hlk
theorem dX12_set_0 : decode cX12_set 0 = .ok (.iload_n 1, 1) := by decide +kernel
theorem dX12_set_1 : decode cX12_set 1 = .ok (.iconst 0, 1) := by decide +kernel
theorem dX12_set_2 : decode cX12_set 2 = .ok (.iconst 5, 1) := by decide +kernel
theorem dX12_set_3 : decode cX12_set 3 = .ok (.invokestatic 334, 3) := by decide +kernel
theorem dX12_set_6 : decode cX12_set 6 = .ok (.ifCond .eq 16, 3) := by decide +kernel
theorem dX12_set_9 : decode cX12_set 9 = .ok (.aload_n 0, 1) := by decide +kernel
theorem dX12_set_10 : decode cX12_set 10 = .ok (.iload_n 1, 1) := by decide +kernel
theorem dX12_set_11 : decode cX12_set 11 = .ok (.iload_n 2, 1) := by decide +kernel
theorem dX12_set_12 : decode cX12_set 12 = .ok (.invokevirtual 551, 3) := by decide +kernel
theorem dX12_set_15 : decode cX12_set 15 = .ok (.ifCond .eq 7, 3) := by decide +kernel
theorem dX12_set_18 : decode cX12_set 18 = .ok (.iconst 1, 1) := by decide +kernel
theorem dX12_set_19 : decode cX12_set 19 = .ok (.goto 4, 3) := by decide +kernel
theorem dX12_set_22 : decode cX12_set 22 = .ok (.iconst 0, 1) := by decide +kernel
theorem dX12_set_23 : decode cX12_set 23 = .ok (.ireturn, 1) := by decide +kernel
def fX12_set (x0 x1 x2 : Int) (v : V_) : Option (Int × V_) :=
  bd_ (fX12_in x1 0 5 v) fun q1 =>
  if q1.1 = 0 then (
    some (0, q1.2))
  else (
    bd_ (fX12_becomes x0 x1 x2 q1.2) fun q3 =>
    if q3.1 = 0 then (
      some (0, q3.2))
    else (
      some (1, q3.2)))
theorem cX12_set_ok (l : Launch) {E : En_} {sz : Int} (hC : Cl_ E.2.2.2.2.2 sz) {x0 x1 x2 : Int} {v : V_} {out : Int × V_} (T0 : (E.2.2.2.2.2 x0 ∧ ty_ x0 = 12 ∧ ln_ x0 = 0)) (h : fX12_set x0 x1 x2 v = some out) : Met l yX12_set [.code yX12_set cX12_set 3 (some FieldType.boolean)] (rm_ 3 64) (Pc_ E sz v [(2, x0), (0, x1), (0, x2)]) (Qc_ E sz 0 out.1 out.2) 0 0 (fun q => E.1 < q) := by
  refine met_G0 RX12 (by decide +kernel) rfl (Nat.le_of_ble_eq_true rfl) ?_
  intro p e s m args below meth c C hr hlk
  rw [fX12_set] at h
  refine g_iload_n C (f := 1) dX12_set_0 1 rfl ?_
  refine g_iconst C (n := 0) dX12_set_1 (by decide) ?_
  refine g_iconst C (n := 5) dX12_set_2 (by decide) ?_
  obtain ⟨q1, eq1, h⟩ := bd_e h
  refine g_cS C [(0, x1), (0, 0), (0, 5)] (cX12_in_ok l hC eq1) km_RX12_334 cs_X12_in rfl (by decide) rfl rfl (Nat.le_of_ble_eq_true rfl) dX12_set_3 ?_
  refine g_if_eq C 22 dX12_set_6 rfl (fun c2 => ?_) (fun c2 => ?_)
  · replace h := if_t h c2
    refine g_iconst C (n := 0) dX12_set_22 (by decide) ?_
    cases h
    exact g_zret C dX12_set_23 hr hlk (Or.inl rfl)
  · replace h := if_f h c2
    refine g_aload_n C (f := 0) dX12_set_9 0 rfl ?_
    refine g_iload_n C (f := 1) dX12_set_10 1 rfl ?_
    refine g_iload_n C (f := 2) dX12_set_11 2 rfl ?_
    obtain ⟨q3, eq3, h⟩ := bd_e h
    refine g_cV C [(0, x1), (0, x2)] (cX12_becomes_ok l hC T0 eq3) okX12 T0.2.1 (rg_ hC T0.1) km_RX12_551 cv_X12_becomes rfl (by decide) rfl rfl (Nat.le_of_ble_eq_true rfl) dX12_set_12 ?_
    refine g_if_eq C 22 dX12_set_15 rfl (fun c4 => ?_) (fun c4 => ?_)
    · replace h := if_t h c4
      refine g_iconst C (n := 0) dX12_set_22 (by decide) ?_
      cases h
      exact g_zret C dX12_set_23 hr hlk (Or.inl rfl)
    · replace h := if_f h c4
      refine g_iconst C (n := 1) dX12_set_18 (by decide) ?_
      refine g_goto C 23 dX12_set_19 rfl ?_
      cases h
      exact g_zret C dX12_set_23 hr hlk (Or.inr rfl)
theorem dX12_slow_0 : decode cX12_slow 0 = .ok (.iload_n 1, 1) := by decide +kernel
theorem dX12_slow_1 : decode cX12_slow 1 = .ok (.iconst 0, 1) := by decide +kernel
theorem dX12_slow_2 : decode cX12_slow 2 = .ok (.iconst 2, 1) := by decide +kernel
theorem dX12_slow_3 : decode cX12_slow 3 = .ok (.invokestatic 334, 3) := by decide +kernel
theorem dX12_slow_6 : decode cX12_slow 6 = .ok (.ifCond .ne 5, 3) := by decide +kernel
theorem dX12_slow_9 : decode cX12_slow 9 = .ok (.iconst (-1), 1) := by decide +kernel
theorem dX12_slow_10 : decode cX12_slow 10 = .ok (.ireturn, 1) := by decide +kernel
theorem dX12_slow_11 : decode cX12_slow 11 = .ok (.aload_n 0, 1) := by decide +kernel
theorem dX12_slow_12 : decode cX12_slow 12 = .ok (.invokevirtual 476, 3) := by decide +kernel
theorem dX12_slow_15 : decode cX12_slow 15 = .ok (.aload_n 0, 1) := by decide +kernel
theorem dX12_slow_16 : decode cX12_slow 16 = .ok (.invokevirtual 555, 3) := by decide +kernel
theorem dX12_slow_19 : decode cX12_slow 19 = .ok (.istore_n 2, 1) := by decide +kernel
theorem dX12_slow_20 : decode cX12_slow 20 = .ok (.iload_n 1, 1) := by decide +kernel
theorem dX12_slow_21 : decode cX12_slow 21 = .ok (.ifCond .ne 7, 3) := by decide +kernel
theorem dX12_slow_24 : decode cX12_slow 24 = .ok (.iload_n 2, 1) := by decide +kernel
theorem dX12_slow_25 : decode cX12_slow 25 = .ok (.goto 19, 3) := by decide +kernel
theorem dX12_slow_28 : decode cX12_slow 28 = .ok (.iload_n 1, 1) := by decide +kernel
theorem dX12_slow_29 : decode cX12_slow 29 = .ok (.iconst 1, 1) := by decide +kernel
theorem dX12_slow_30 : decode cX12_slow 30 = .ok (.if_icmp .ne 10, 3) := by decide +kernel
theorem dX12_slow_33 : decode cX12_slow 33 = .ok (.aload_n 0, 1) := by decide +kernel
theorem dX12_slow_34 : decode cX12_slow 34 = .ok (.getfield 353, 3) := by decide +kernel
theorem dX12_slow_37 : decode cX12_slow 37 = .ok (.goto 7, 3) := by decide +kernel
theorem dX12_slow_40 : decode cX12_slow 40 = .ok (.aload_n 0, 1) := by decide +kernel
theorem dX12_slow_41 : decode cX12_slow 41 = .ok (.getfield 356, 3) := by decide +kernel
theorem dX12_slow_44 : decode cX12_slow 44 = .ok (.ireturn, 1) := by decide +kernel
def fX12_slow (x0 x1 : Int) (v : V_) : Option (Int × V_) :=
  bd_ (fX12_in x1 0 2 v) fun q1 =>
  if q1.1 = 0 then (
    some ((-1), q1.2))
  else (
    bd_ (fX12_copies x0 q1.2) fun q3 =>
    bd_ (fX12_runsSlow x0 q3.2) fun q4 =>
    if x1 = 0 then (
      some (q4.1, q4.2))
    else (
      if x1 = 1 then (
        some (q4.2 x0 45, q4.2))
      else (
        some (q4.2 x0 46, q4.2))))
theorem cX12_slow_ok (l : Launch) {E : En_} {sz : Int} (hC : Cl_ E.2.2.2.2.2 sz) {x0 x1 : Int} {v : V_} {out : Int × V_} (T0 : (E.2.2.2.2.2 x0 ∧ ty_ x0 = 12 ∧ ln_ x0 = 0)) (h : fX12_slow x0 x1 v = some out) : Met l yX12_slow [.code yX12_slow cX12_slow 3 (some FieldType.int)] (rm_ 4 92) (Pc_ E sz v [(2, x0), (0, x1)]) (Qc_ E sz 0 out.1 out.2) 0 0 (fun q => E.1 < q) := by
  refine met_G0 RX12 (by decide +kernel) rfl (Nat.le_of_ble_eq_true rfl) ?_
  intro p e s m args below meth c C hr hlk
  rw [fX12_slow] at h
  refine g_iload_n C (f := 1) dX12_slow_0 1 rfl ?_
  refine g_iconst C (n := 0) dX12_slow_1 (by decide) ?_
  refine g_iconst C (n := 2) dX12_slow_2 (by decide) ?_
  obtain ⟨q1, eq1, h⟩ := bd_e h
  refine g_cS C [(0, x1), (0, 0), (0, 2)] (cX12_in_ok l hC eq1) km_RX12_334 cs_X12_in rfl (by decide) rfl rfl (Nat.le_of_ble_eq_true rfl) dX12_slow_3 ?_
  refine g_if_ne C 11 dX12_slow_6 rfl (fun c2 => ?_) (fun c2 => ?_)
  · replace h := if_f h c2
    refine g_aload_n C (f := 0) dX12_slow_11 0 rfl ?_
    obtain ⟨q3, eq3, h⟩ := bd_e h
    refine g_cV C [] (cX12_copies_ok l hC T0 eq3) okX12 T0.2.1 (rg_ hC T0.1) km_RX12_476 cv_X12_copies rfl (by decide) rfl rfl (Nat.le_of_ble_eq_true rfl) dX12_slow_12 ?_
    refine g_aload_n C (f := 0) dX12_slow_15 0 rfl ?_
    obtain ⟨q4, eq4, h⟩ := bd_e h
    refine g_cV C [] (cX12_runsSlow_ok l hC T0 eq4) okX12 T0.2.1 (rg_ hC T0.1) km_RX12_555 cv_X12_runsSlow rfl (by decide) rfl rfl (Nat.le_of_ble_eq_true rfl) dX12_slow_16 ?_
    refine g_istore_n C (f := 2) (ls' := [(2, (0, q4.1)), (0, (2, x0)), (1, (0, x1))]) dX12_slow_19 (by decide) rfl ?_
    refine g_iload_n C (f := 1) dX12_slow_20 2 rfl ?_
    refine g_if_ne C 28 dX12_slow_21 rfl (fun c5 => ?_) (fun c5 => ?_)
    · replace h := if_f h c5
      refine g_iload_n C (f := 1) dX12_slow_28 2 rfl ?_
      refine g_iconst C (n := 1) dX12_slow_29 (by decide) ?_
      refine g_icmp_ne C 40 dX12_slow_30 rfl (fun c6 => ?_) (fun c6 => ?_)
      · replace h := if_f h c6
        refine g_aload_n C (f := 0) dX12_slow_40 1 rfl ?_
        refine g_getf C (k := 46) (kd := 0) okX12 (by decide) kf_RX12_356 dX12_slow_41 (rg_ hC T0.1) T0.2.1 rfl ?_
        cases h
        exact g_iret C dX12_slow_44 hr hlk
      · replace h := if_t h c6
        refine g_aload_n C (f := 0) dX12_slow_33 1 rfl ?_
        refine g_getf C (k := 45) (kd := 0) okX12 (by decide) kf_RX12_353 dX12_slow_34 (rg_ hC T0.1) T0.2.1 rfl ?_
        refine g_goto C 44 dX12_slow_37 rfl ?_
        cases h
        exact g_iret C dX12_slow_44 hr hlk
    · replace h := if_t h c5
      refine g_iload_n C (f := 2) dX12_slow_24 0 rfl ?_
      refine g_goto C 44 dX12_slow_25 rfl ?_
      cases h
      exact g_iret C dX12_slow_44 hr hlk
  · replace h := if_t h c2
    refine g_iconst C (n := (-1)) dX12_slow_9 (by decide) ?_
    cases h
    exact g_iret C dX12_slow_10 hr hlk
theorem dX12_trace_0 : decode cX12_trace 0 = .ok (.aload_n 0, 1) := by decide +kernel
theorem dX12_trace_1 : decode cX12_trace 1 = .ok (.invokevirtual 542, 3) := by decide +kernel
theorem dX12_trace_4 : decode cX12_trace 4 = .ok (.aload_n 0, 1) := by decide +kernel
theorem dX12_trace_5 : decode cX12_trace 5 = .ok (.iload_n 1, 1) := by decide +kernel
theorem dX12_trace_6 : decode cX12_trace 6 = .ok (.invokevirtual 567, 3) := by decide +kernel
theorem dX12_trace_9 : decode cX12_trace 9 = .ok (.ifCond .ne 5, 3) := by decide +kernel
theorem dX12_trace_12 : decode cX12_trace 12 = .ok (.iconst (-1), 1) := by decide +kernel
theorem dX12_trace_13 : decode cX12_trace 13 = .ok (.ireturn, 1) := by decide +kernel
theorem dX12_trace_14 : decode cX12_trace 14 = .ok (.iload_n 2, 1) := by decide +kernel
theorem dX12_trace_15 : decode cX12_trace 15 = .ok (.tableswitch 116 0 9 #[53, 60, 67, 73, 79, 85, 91, 98, 104, 110], 53) := by decide +kernel
theorem dX12_trace_68 : decode cX12_trace 68 = .ok (.aload_n 0, 1) := by decide +kernel
theorem dX12_trace_69 : decode cX12_trace 69 = .ok (.getfield 115, 3) := by decide +kernel
theorem dX12_trace_72 : decode cX12_trace 72 = .ok (.iload_n 1, 1) := by decide +kernel
theorem dX12_trace_73 : decode cX12_trace 73 = .ok (.iaload, 1) := by decide +kernel
theorem dX12_trace_74 : decode cX12_trace 74 = .ok (.ireturn, 1) := by decide +kernel
theorem dX12_trace_75 : decode cX12_trace 75 = .ok (.aload_n 0, 1) := by decide +kernel
theorem dX12_trace_76 : decode cX12_trace 76 = .ok (.getfield 118, 3) := by decide +kernel
theorem dX12_trace_79 : decode cX12_trace 79 = .ok (.iload_n 1, 1) := by decide +kernel
theorem dX12_trace_80 : decode cX12_trace 80 = .ok (.iaload, 1) := by decide +kernel
theorem dX12_trace_81 : decode cX12_trace 81 = .ok (.ireturn, 1) := by decide +kernel
theorem dX12_trace_82 : decode cX12_trace 82 = .ok (.aload_n 0, 1) := by decide +kernel
theorem dX12_trace_83 : decode cX12_trace 83 = .ok (.iload_n 1, 1) := by decide +kernel
theorem dX12_trace_84 : decode cX12_trace 84 = .ok (.invokevirtual 521, 3) := by decide +kernel
theorem dX12_trace_87 : decode cX12_trace 87 = .ok (.ireturn, 1) := by decide +kernel
theorem dX12_trace_88 : decode cX12_trace 88 = .ok (.aload_n 0, 1) := by decide +kernel
theorem dX12_trace_89 : decode cX12_trace 89 = .ok (.iload_n 1, 1) := by decide +kernel
theorem dX12_trace_90 : decode cX12_trace 90 = .ok (.invokevirtual 570, 3) := by decide +kernel
theorem dX12_trace_93 : decode cX12_trace 93 = .ok (.ireturn, 1) := by decide +kernel
theorem dX12_trace_94 : decode cX12_trace 94 = .ok (.aload_n 0, 1) := by decide +kernel
theorem dX12_trace_95 : decode cX12_trace 95 = .ok (.iload_n 1, 1) := by decide +kernel
theorem dX12_trace_96 : decode cX12_trace 96 = .ok (.invokevirtual 494, 3) := by decide +kernel
theorem dX12_trace_99 : decode cX12_trace 99 = .ok (.ireturn, 1) := by decide +kernel
theorem dX12_trace_100 : decode cX12_trace 100 = .ok (.aload_n 0, 1) := by decide +kernel
theorem dX12_trace_101 : decode cX12_trace 101 = .ok (.iload_n 1, 1) := by decide +kernel
theorem dX12_trace_102 : decode cX12_trace 102 = .ok (.invokevirtual 573, 3) := by decide +kernel
theorem dX12_trace_105 : decode cX12_trace 105 = .ok (.ireturn, 1) := by decide +kernel
theorem dX12_trace_106 : decode cX12_trace 106 = .ok (.aload_n 0, 1) := by decide +kernel
theorem dX12_trace_107 : decode cX12_trace 107 = .ok (.getfield 154, 3) := by decide +kernel
theorem dX12_trace_110 : decode cX12_trace 110 = .ok (.iload_n 1, 1) := by decide +kernel
theorem dX12_trace_111 : decode cX12_trace 111 = .ok (.iaload, 1) := by decide +kernel
theorem dX12_trace_112 : decode cX12_trace 112 = .ok (.ireturn, 1) := by decide +kernel
theorem dX12_trace_113 : decode cX12_trace 113 = .ok (.aload_n 0, 1) := by decide +kernel
theorem dX12_trace_114 : decode cX12_trace 114 = .ok (.iload_n 1, 1) := by decide +kernel
theorem dX12_trace_115 : decode cX12_trace 115 = .ok (.invokevirtual 576, 3) := by decide +kernel
theorem dX12_trace_118 : decode cX12_trace 118 = .ok (.ireturn, 1) := by decide +kernel
theorem dX12_trace_119 : decode cX12_trace 119 = .ok (.aload_n 0, 1) := by decide +kernel
theorem dX12_trace_120 : decode cX12_trace 120 = .ok (.iload_n 1, 1) := by decide +kernel
theorem dX12_trace_121 : decode cX12_trace 121 = .ok (.invokevirtual 579, 3) := by decide +kernel
theorem dX12_trace_124 : decode cX12_trace 124 = .ok (.ireturn, 1) := by decide +kernel
theorem dX12_trace_125 : decode cX12_trace 125 = .ok (.aload_n 0, 1) := by decide +kernel
theorem dX12_trace_126 : decode cX12_trace 126 = .ok (.iload_n 1, 1) := by decide +kernel
theorem dX12_trace_127 : decode cX12_trace 127 = .ok (.invokevirtual 582, 3) := by decide +kernel
theorem dX12_trace_130 : decode cX12_trace 130 = .ok (.ireturn, 1) := by decide +kernel
theorem dX12_trace_131 : decode cX12_trace 131 = .ok (.iconst (-1), 1) := by decide +kernel
theorem dX12_trace_132 : decode cX12_trace 132 = .ok (.ireturn, 1) := by decide +kernel
def fX12_trace (x0 x1 x2 : Int) (v : V_) : Option (Int × V_) :=
  bd_ (fX12_plansAll x0 v) fun q1 =>
  bd_ (fX12_isTrace x0 x1 q1.2) fun q2 =>
  if q2.1 = 0 then (
    some ((-1), q2.2))
  else (
    if x2 = 0 then (
      ck_ (0 ≤ x1 ∧ x1 < 8) (
      some (q2.2 (x0 + 33) x1, q2.2)))
    else (
    if x2 = 1 then (
      ck_ (0 ≤ x1 ∧ x1 < 8) (
      some (q2.2 (x0 + 34) x1, q2.2)))
    else (
    if x2 = 2 then (
      bd_ (fX12_lengthOf x0 x1 q2.2) fun q11 =>
      some (q11.1, q11.2))
    else (
    if x2 = 3 then (
      bd_ (fX12_floorOf x0 x1 q2.2) fun q13 =>
      some (q13.1, q13.2))
    else (
    if x2 = 4 then (
      bd_ (fX12_pathOf x0 x1 q2.2) fun q15 =>
      some (q15.1, q15.2))
    else (
    if x2 = 5 then (
      bd_ (fX12_splitsOf x0 x1 q2.2) fun q17 =>
      some (q17.1, q17.2))
    else (
    if x2 = 6 then (
      ck_ (0 ≤ x1 ∧ x1 < 8) (
      some (q2.2 (x0 + 46) x1, q2.2)))
    else (
    if x2 = 7 then (
      bd_ (fX12_plainOf x0 x1 q2.2) fun q22 =>
      some (q22.1, q22.2))
    else (
    if x2 = 8 then (
      bd_ (fX12_guessesOf x0 x1 q2.2) fun q24 =>
      some (q24.1, q24.2))
    else (
    if x2 = 9 then (
      bd_ (fX12_copiedAll x0 x1 q2.2) fun q26 =>
      some (q26.1, q26.2))
    else (
    some ((-1), q2.2))))))))))))
theorem cX12_trace_ok (l : Launch) {E : En_} {sz : Int} (hC : Cl_ E.2.2.2.2.2 sz) {x0 x1 x2 : Int} {v : V_} {out : Int × V_} (T0 : (E.2.2.2.2.2 x0 ∧ ty_ x0 = 12 ∧ ln_ x0 = 0)) (h : fX12_trace x0 x1 x2 v = some out) : Met l yX12_trace [.code yX12_trace cX12_trace 3 (some FieldType.int)] (rm_ 6 133) (Pc_ E sz v [(2, x0), (0, x1), (0, x2)]) (Qc_ E sz 0 out.1 out.2) 0 0 (fun q => E.1 < q) := by
  refine met_G0 RX12 (by decide +kernel) rfl (Nat.le_of_ble_eq_true rfl) ?_
  intro p e s m args below meth c C hr hlk
  rw [fX12_trace] at h
  refine g_aload_n C (f := 0) dX12_trace_0 0 rfl ?_
  obtain ⟨q1, eq1, h⟩ := bd_e h
  refine g_cV C [] (cX12_plansAll_ok l hC T0 eq1) okX12 T0.2.1 (rg_ hC T0.1) km_RX12_542 cv_X12_plansAll rfl (by decide) rfl rfl (Nat.le_of_ble_eq_true rfl) dX12_trace_1 ?_
  refine g_aload_n C (f := 0) dX12_trace_4 0 rfl ?_
  refine g_iload_n C (f := 1) dX12_trace_5 1 rfl ?_
  obtain ⟨q2, eq2, h⟩ := bd_e h
  refine g_cV C [(0, x1)] (cX12_isTrace_ok l hC T0 eq2) okX12 T0.2.1 (rg_ hC T0.1) km_RX12_567 cv_X12_isTrace rfl (by decide) rfl rfl (Nat.le_of_ble_eq_true rfl) dX12_trace_6 ?_
  refine g_if_ne C 14 dX12_trace_9 rfl (fun c3 => ?_) (fun c3 => ?_)
  · replace h := if_f h c3
    refine g_iload_n C (f := 2) dX12_trace_14 2 rfl ?_
    by_cases c4 : x2 = 0
    · replace h := if_t h c4
      refine g_tin C 68 dX12_trace_15 0 c4 (by decide) (by decide) rfl rfl ?_
      refine g_aload_n C (f := 0) dX12_trace_68 0 rfl ?_
      have F5 := fX12_51 hC T0.1 T0.2.1
      refine g_getR C (k := 51) (o := 33) okX12 (by decide) kf_RX12_115 dX12_trace_69 hC T0.1 T0.2.1 rfl rfl ?_
      refine g_iload_n C (f := 1) dX12_trace_72 1 rfl ?_
      obtain ⟨c6, h⟩ := ck_e h
      refine g_iald C 8 dX12_trace_73 (rg_ hC F5.1) F5.2.1 F5.2.2 c6 ?_
      cases h
      exact g_iret C dX12_trace_74 hr hlk
    replace h := if_f h c4
    by_cases c7 : x2 = 1
    · replace h := if_t h c7
      refine g_tin C 75 dX12_trace_15 1 c7 (by decide) (by decide) rfl rfl ?_
      refine g_aload_n C (f := 0) dX12_trace_75 0 rfl ?_
      have F8 := fX12_53 hC T0.1 T0.2.1
      refine g_getR C (k := 53) (o := 34) okX12 (by decide) kf_RX12_118 dX12_trace_76 hC T0.1 T0.2.1 rfl rfl ?_
      refine g_iload_n C (f := 1) dX12_trace_79 1 rfl ?_
      obtain ⟨c9, h⟩ := ck_e h
      refine g_iald C 8 dX12_trace_80 (rg_ hC F8.1) F8.2.1 F8.2.2 c9 ?_
      cases h
      exact g_iret C dX12_trace_81 hr hlk
    replace h := if_f h c7
    by_cases c10 : x2 = 2
    · replace h := if_t h c10
      refine g_tin C 82 dX12_trace_15 2 c10 (by decide) (by decide) rfl rfl ?_
      refine g_aload_n C (f := 0) dX12_trace_82 0 rfl ?_
      refine g_iload_n C (f := 1) dX12_trace_83 1 rfl ?_
      obtain ⟨q11, eq11, h⟩ := bd_e h
      refine g_cV C [(0, x1)] (cX12_lengthOf_ok l hC T0 eq11) okX12 T0.2.1 (rg_ hC T0.1) km_RX12_521 cv_X12_lengthOf rfl (by decide) rfl rfl (Nat.le_of_ble_eq_true rfl) dX12_trace_84 ?_
      cases h
      exact g_iret C dX12_trace_87 hr hlk
    replace h := if_f h c10
    by_cases c12 : x2 = 3
    · replace h := if_t h c12
      refine g_tin C 88 dX12_trace_15 3 c12 (by decide) (by decide) rfl rfl ?_
      refine g_aload_n C (f := 0) dX12_trace_88 0 rfl ?_
      refine g_iload_n C (f := 1) dX12_trace_89 1 rfl ?_
      obtain ⟨q13, eq13, h⟩ := bd_e h
      refine g_cV C [(0, x1)] (cX12_floorOf_ok l hC T0 eq13) okX12 T0.2.1 (rg_ hC T0.1) km_RX12_570 cv_X12_floorOf rfl (by decide) rfl rfl (Nat.le_of_ble_eq_true rfl) dX12_trace_90 ?_
      cases h
      exact g_iret C dX12_trace_93 hr hlk
    replace h := if_f h c12
    by_cases c14 : x2 = 4
    · replace h := if_t h c14
      refine g_tin C 94 dX12_trace_15 4 c14 (by decide) (by decide) rfl rfl ?_
      refine g_aload_n C (f := 0) dX12_trace_94 0 rfl ?_
      refine g_iload_n C (f := 1) dX12_trace_95 1 rfl ?_
      obtain ⟨q15, eq15, h⟩ := bd_e h
      refine g_cV C [(0, x1)] (cX12_pathOf_ok l hC T0 eq15) okX12 T0.2.1 (rg_ hC T0.1) km_RX12_494 cv_X12_pathOf rfl (by decide) rfl rfl (Nat.le_of_ble_eq_true rfl) dX12_trace_96 ?_
      cases h
      exact g_iret C dX12_trace_99 hr hlk
    replace h := if_f h c14
    by_cases c16 : x2 = 5
    · replace h := if_t h c16
      refine g_tin C 100 dX12_trace_15 5 c16 (by decide) (by decide) rfl rfl ?_
      refine g_aload_n C (f := 0) dX12_trace_100 0 rfl ?_
      refine g_iload_n C (f := 1) dX12_trace_101 1 rfl ?_
      obtain ⟨q17, eq17, h⟩ := bd_e h
      refine g_cV C [(0, x1)] (cX12_splitsOf_ok l hC T0 eq17) okX12 T0.2.1 (rg_ hC T0.1) km_RX12_573 cv_X12_splitsOf rfl (by decide) rfl rfl (Nat.le_of_ble_eq_true rfl) dX12_trace_102 ?_
      cases h
      exact g_iret C dX12_trace_105 hr hlk
    replace h := if_f h c16
    by_cases c18 : x2 = 6
    · replace h := if_t h c18
      refine g_tin C 106 dX12_trace_15 6 c18 (by decide) (by decide) rfl rfl ?_
      refine g_aload_n C (f := 0) dX12_trace_106 0 rfl ?_
      have F19 := fX12_65 hC T0.1 T0.2.1
      refine g_getR C (k := 65) (o := 46) okX12 (by decide) kf_RX12_154 dX12_trace_107 hC T0.1 T0.2.1 rfl rfl ?_
      refine g_iload_n C (f := 1) dX12_trace_110 1 rfl ?_
      obtain ⟨c20, h⟩ := ck_e h
      refine g_iald C 8 dX12_trace_111 (rg_ hC F19.1) F19.2.1 F19.2.2 c20 ?_
      cases h
      exact g_iret C dX12_trace_112 hr hlk
    replace h := if_f h c18
    by_cases c21 : x2 = 7
    · replace h := if_t h c21
      refine g_tin C 113 dX12_trace_15 7 c21 (by decide) (by decide) rfl rfl ?_
      refine g_aload_n C (f := 0) dX12_trace_113 0 rfl ?_
      refine g_iload_n C (f := 1) dX12_trace_114 1 rfl ?_
      obtain ⟨q22, eq22, h⟩ := bd_e h
      refine g_cV C [(0, x1)] (cX12_plainOf_ok l hC T0 eq22) okX12 T0.2.1 (rg_ hC T0.1) km_RX12_576 cv_X12_plainOf rfl (by decide) rfl rfl (Nat.le_of_ble_eq_true rfl) dX12_trace_115 ?_
      cases h
      exact g_iret C dX12_trace_118 hr hlk
    replace h := if_f h c21
    by_cases c23 : x2 = 8
    · replace h := if_t h c23
      refine g_tin C 119 dX12_trace_15 8 c23 (by decide) (by decide) rfl rfl ?_
      refine g_aload_n C (f := 0) dX12_trace_119 0 rfl ?_
      refine g_iload_n C (f := 1) dX12_trace_120 1 rfl ?_
      obtain ⟨q24, eq24, h⟩ := bd_e h
      refine g_cV C [(0, x1)] (cX12_guessesOf_ok l hC T0 eq24) okX12 T0.2.1 (rg_ hC T0.1) km_RX12_579 cv_X12_guessesOf rfl (by decide) rfl rfl (Nat.le_of_ble_eq_true rfl) dX12_trace_121 ?_
      cases h
      exact g_iret C dX12_trace_124 hr hlk
    replace h := if_f h c23
    by_cases c25 : x2 = 9
    · replace h := if_t h c25
      refine g_tin C 125 dX12_trace_15 9 c25 (by decide) (by decide) rfl rfl ?_
      refine g_aload_n C (f := 0) dX12_trace_125 0 rfl ?_
      refine g_iload_n C (f := 1) dX12_trace_126 1 rfl ?_
      obtain ⟨q26, eq26, h⟩ := bd_e h
      refine g_cV C [(0, x1)] (cX12_copiedAll_ok l hC T0 eq26) okX12 T0.2.1 (rg_ hC T0.1) km_RX12_582 cv_X12_copiedAll rfl (by decide) rfl rfl (Nat.le_of_ble_eq_true rfl) dX12_trace_127 ?_
      cases h
      exact g_iret C dX12_trace_130 hr hlk
    replace h := if_f h c25
    refine g_tdef C (x := x2) 131 dX12_trace_15 (by intro a ha h1 h2; exact absurd h2 (by omega)) rfl ?_
    refine g_iconst C (n := (-1)) dX12_trace_131 (by decide) ?_
    cases h
    exact g_iret C dX12_trace_132 hr hlk
  · replace h := if_t h c3
    refine g_iconst C (n := (-1)) dX12_trace_12 (by decide) ?_
    cases h
    exact g_iret C dX12_trace_13 hr hlk
theorem dX12_traces_0 : decode cX12_traces 0 = .ok (.aload_n 0, 1) := by decide +kernel
theorem dX12_traces_1 : decode cX12_traces 1 = .ok (.invokevirtual 542, 3) := by decide +kernel
theorem dX12_traces_4 : decode cX12_traces 4 = .ok (.aload_n 0, 1) := by decide +kernel
theorem dX12_traces_5 : decode cX12_traces 5 = .ok (.getfield 402, 3) := by decide +kernel
theorem dX12_traces_8 : decode cX12_traces 8 = .ok (.ireturn, 1) := by decide +kernel
def fX12_traces (x0 : Int) (v : V_) : Option (Int × V_) :=
  bd_ (fX12_plansAll x0 v) fun q1 =>
  some (q1.2 x0 52, q1.2)
theorem cX12_traces_ok (l : Launch) {E : En_} {sz : Int} (hC : Cl_ E.2.2.2.2.2 sz) {x0 : Int} {v : V_} {out : Int × V_} (T0 : (E.2.2.2.2.2 x0 ∧ ty_ x0 = 12 ∧ ln_ x0 = 0)) (h : fX12_traces x0 v = some out) : Met l yX12_traces [.code yX12_traces cX12_traces 1 (some FieldType.int)] (rm_ 6 133) (Pc_ E sz v [(2, x0)]) (Qc_ E sz 0 out.1 out.2) 0 0 (fun q => E.1 < q) := by
  refine met_G0 RX12 (by decide +kernel) rfl (Nat.le_of_ble_eq_true rfl) ?_
  intro p e s m args below meth c C hr hlk
  rw [fX12_traces] at h
  refine g_aload_n C (f := 0) dX12_traces_0 0 rfl ?_
  obtain ⟨q1, eq1, h⟩ := bd_e h
  refine g_cV C [] (cX12_plansAll_ok l hC T0 eq1) okX12 T0.2.1 (rg_ hC T0.1) km_RX12_542 cv_X12_plansAll rfl (by decide) rfl rfl (Nat.le_of_ble_eq_true rfl) dX12_traces_1 ?_
  refine g_aload_n C (f := 0) dX12_traces_4 0 rfl ?_
  refine g_getf C (k := 52) (kd := 0) okX12 (by decide) kf_RX12_402 dX12_traces_5 (rg_ hC T0.1) T0.2.1 rfl ?_
  cases h
  exact g_iret C dX12_traces_8 hr hlk
theorem dX12_undo_0 : decode cX12_undo 0 = .ok (.aload_n 0, 1) := by decide +kernel
theorem dX12_undo_1 : decode cX12_undo 1 = .ok (.getfield 291, 3) := by decide +kernel
theorem dX12_undo_4 : decode cX12_undo 4 = .ok (.ifCond .ne 5, 3) := by decide +kernel
theorem dX12_undo_7 : decode cX12_undo 7 = .ok (.iconst 0, 1) := by decide +kernel
theorem dX12_undo_8 : decode cX12_undo 8 = .ok (.ireturn, 1) := by decide +kernel
theorem dX12_undo_9 : decode cX12_undo 9 = .ok (.aload_n 0, 1) := by decide +kernel
theorem dX12_undo_10 : decode cX12_undo 10 = .ok (.dup, 1) := by decide +kernel
theorem dX12_undo_11 : decode cX12_undo 11 = .ok (.getfield 291, 3) := by decide +kernel
theorem dX12_undo_14 : decode cX12_undo 14 = .ok (.iconst 1, 1) := by decide +kernel
theorem dX12_undo_15 : decode cX12_undo 15 = .ok (.isub, 1) := by decide +kernel
theorem dX12_undo_16 : decode cX12_undo 16 = .ok (.putfield 291, 3) := by decide +kernel
theorem dX12_undo_19 : decode cX12_undo 19 = .ok (.iconst 0, 1) := by decide +kernel
theorem dX12_undo_20 : decode cX12_undo 20 = .ok (.istore_n 1, 1) := by decide +kernel
theorem dX12_undo_21 : decode cX12_undo 21 = .ok (.iload_n 1, 1) := by decide +kernel
theorem dX12_undo_22 : decode cX12_undo 22 = .ok (.bipush 47, 2) := by decide +kernel
theorem dX12_undo_24 : decode cX12_undo 24 = .ok (.if_icmp .ge 29, 3) := by decide +kernel
theorem dX12_undo_27 : decode cX12_undo 27 = .ok (.aload_n 0, 1) := by decide +kernel
theorem dX12_undo_28 : decode cX12_undo 28 = .ok (.getfield 85, 3) := by decide +kernel
theorem dX12_undo_31 : decode cX12_undo 31 = .ok (.iload_n 1, 1) := by decide +kernel
theorem dX12_undo_32 : decode cX12_undo 32 = .ok (.aload_n 0, 1) := by decide +kernel
theorem dX12_undo_33 : decode cX12_undo 33 = .ok (.getfield 182, 3) := by decide +kernel
theorem dX12_undo_36 : decode cX12_undo 36 = .ok (.bipush 47, 2) := by decide +kernel
theorem dX12_undo_38 : decode cX12_undo 38 = .ok (.aload_n 0, 1) := by decide +kernel
theorem dX12_undo_39 : decode cX12_undo 39 = .ok (.getfield 291, 3) := by decide +kernel
theorem dX12_undo_42 : decode cX12_undo 42 = .ok (.imul, 1) := by decide +kernel
theorem dX12_undo_43 : decode cX12_undo 43 = .ok (.iload_n 1, 1) := by decide +kernel
theorem dX12_undo_44 : decode cX12_undo 44 = .ok (.iadd, 1) := by decide +kernel
theorem dX12_undo_45 : decode cX12_undo 45 = .ok (.iaload, 1) := by decide +kernel
theorem dX12_undo_46 : decode cX12_undo 46 = .ok (.iastore, 1) := by decide +kernel
theorem dX12_undo_47 : decode cX12_undo 47 = .ok (.iinc 1 1, 3) := by decide +kernel
theorem dX12_undo_50 : decode cX12_undo 50 = .ok (.goto (-29), 3) := by decide +kernel
theorem dX12_undo_53 : decode cX12_undo 53 = .ok (.aload_n 0, 1) := by decide +kernel
theorem dX12_undo_54 : decode cX12_undo 54 = .ok (.iconst 0, 1) := by decide +kernel
theorem dX12_undo_55 : decode cX12_undo 55 = .ok (.putfield 287, 3) := by decide +kernel
theorem dX12_undo_58 : decode cX12_undo 58 = .ok (.iconst 1, 1) := by decide +kernel
theorem dX12_undo_59 : decode cX12_undo 59 = .ok (.ireturn, 1) := by decide +kernel
def fX12_undo_21 : Nat → Int → Int → V_ → Option (Int × V_)
  | 0, _, _, _ => none
  | n + 1, x0, x1, v =>
    if 47 ≤ x1 then (
      lt_ (up_ v x0 69 0) fun v4 =>
      some (1, v4))
    else (
      ck_ (0 ≤ wr_ ((wr_ (47 * (v x0 77))) + x1) ∧ wr_ ((wr_ (47 * (v x0 77))) + x1) < 1880) (
      ck_ (0 ≤ x1 ∧ x1 < 47) (
      lt_ (up_ v (x0 + 23) x1 (v (x0 + 55) (wr_ ((wr_ (47 * (v x0 77))) + x1)))) fun v9 =>
      lt_ (wr_ (x1 + 1)) fun y10 =>
      (fX12_undo_21 n) x0 y10 v9)))
def fX12_undo (x0 : Int) (v : V_) : Option (Int × V_) :=
  if (v x0 77) = 0 then (
    some (0, v))
  else (
    lt_ (up_ v x0 77 (wr_ ((v x0 77) - 1))) fun v2 =>
    fX12_undo_21 fu_ x0 0 v2)
section
variable {E : En_} {p : Program} {l : Launch} {e : Env} {s : State} {m : MethodId} {args : Array Value} {below : List Frame} {meth : Method} {c : Code} {sz : Int}
theorem tX12_undo_21 (C : MC_ E p s m c cX12_undo 2 RX12) (hr : meth.sig.returnType = (some FieldType.boolean)) (hlk : meth.locks = false) (hC : Cl_ E.2.2.2.2.2 sz) {out : Int × V_} : ∀ (n : Nat) (x0 x1 : Int) (v : V_), (E.2.2.2.2.2 x0 ∧ ty_ x0 = 12 ∧ ln_ x0 = 0) → fX12_undo_21 n x0 x1 v = some out → G_ E p l e (rm_ 0 0) s m args below meth c 2 sz (Q_ E below args s sz sz 0 out.1 out.2) 21 [(0, (2, x0)), (1, (0, x1))] [] v sz := by
  intro n
  induction n with
  | zero =>
    intro x0 x1 v T0 h
    cases h
  | succ n H_21 =>
    intro x0 x1 v T0 h
    rw [fX12_undo_21] at h
    refine g_iload_n C (f := 1) dX12_undo_21 1 rfl ?_
    refine g_bipush C (n := 47) dX12_undo_22 (by decide) ?_
    refine g_icmp_ge C 53 dX12_undo_24 rfl (fun c3 => ?_) (fun c3 => ?_)
    · replace h := if_t h c3
      refine g_aload_n C (f := 0) dX12_undo_53 0 rfl ?_
      refine g_iconst C (n := 0) dX12_undo_54 (by decide) ?_
      obtain ⟨v4, ev4, h⟩ := lt_e h
      refine g_putf C (k := 69) (kd := 0) okX12 (by decide) kf_RX12_287 dX12_undo_55 (rg_ hC T0.1) T0.2.1 rfl rfl (nvZ (Or.inl rfl)) (Or.inl rfl) v4 ev4 ?_
      refine g_iconst C (n := 1) dX12_undo_58 (by decide) ?_
      cases h
      exact g_zret C dX12_undo_59 hr hlk (Or.inr rfl)
    · replace h := if_f h c3
      refine g_aload_n C (f := 0) dX12_undo_27 0 rfl ?_
      have F5 := fX12_36 hC T0.1 T0.2.1
      refine g_getR C (k := 36) (o := 23) okX12 (by decide) kf_RX12_85 dX12_undo_28 hC T0.1 T0.2.1 rfl rfl ?_
      refine g_iload_n C (f := 1) dX12_undo_31 1 rfl ?_
      refine g_aload_n C (f := 0) dX12_undo_32 0 rfl ?_
      have F6 := fX12_78 hC T0.1 T0.2.1
      refine g_getR C (k := 78) (o := 55) okX12 (by decide) kf_RX12_182 dX12_undo_33 hC T0.1 T0.2.1 rfl rfl ?_
      refine g_bipush C (n := 47) dX12_undo_36 (by decide) ?_
      refine g_aload_n C (f := 0) dX12_undo_38 0 rfl ?_
      refine g_getf C (k := 77) (kd := 0) okX12 (by decide) kf_RX12_291 dX12_undo_39 (rg_ hC T0.1) T0.2.1 rfl ?_
      refine g_imul C dX12_undo_42 ?_
      refine g_iload_n C (f := 1) dX12_undo_43 1 rfl ?_
      refine g_iadd C dX12_undo_44 ?_
      obtain ⟨c7, h⟩ := ck_e h
      refine g_iald C 1880 dX12_undo_45 (rg_ hC F6.1) F6.2.1 F6.2.2 c7 ?_
      obtain ⟨c8, h⟩ := ck_e h
      obtain ⟨v9, ev9, h⟩ := lt_e h
      refine g_iast C 47 dX12_undo_46 (rg_ hC F5.1) F5.2.1 F5.2.2 c8 v9 ev9 ?_
      obtain ⟨y10, ey10, h⟩ := lt_e h
      refine g_iincx C (ls' := [(1, (0, y10)), (0, (2, x0))]) ey10 dX12_undo_47 1 rfl (by decide) (by decide) rfl ?_
      refine g_goto C 21 dX12_undo_50 rfl ?_
      refine g_sub [1, 0] rfl rfl ?_
      exact H_21 _ _ _ T0 h
end
theorem cX12_undo_ok (l : Launch) {E : En_} {sz : Int} (hC : Cl_ E.2.2.2.2.2 sz) {x0 : Int} {v : V_} {out : Int × V_} (T0 : (E.2.2.2.2.2 x0 ∧ ty_ x0 = 12 ∧ ln_ x0 = 0)) (h : fX12_undo x0 v = some out) : Met l yX12_undo [.code yX12_undo cX12_undo 2 (some FieldType.boolean)] (rm_ 0 0) (Pc_ E sz v [(2, x0)]) (Qc_ E sz 0 out.1 out.2) 0 0 (fun q => E.1 < q) := by
  refine met_G0 RX12 (by decide +kernel) rfl (Nat.le_of_ble_eq_true rfl) ?_
  intro p e s m args below meth c C hr hlk
  rw [fX12_undo] at h
  refine g_aload_n C (f := 0) dX12_undo_0 0 rfl ?_
  refine g_getf C (k := 77) (kd := 0) okX12 (by decide) kf_RX12_291 dX12_undo_1 (rg_ hC T0.1) T0.2.1 rfl ?_
  refine g_if_ne C 9 dX12_undo_4 rfl (fun c1 => ?_) (fun c1 => ?_)
  · replace h := if_f h c1
    refine g_aload_n C (f := 0) dX12_undo_9 0 rfl ?_
    refine g_dup C (Nat.ne_of_beq_eq_false rfl) dX12_undo_10 ?_
    refine g_getf C (k := 77) (kd := 0) okX12 (by decide) kf_RX12_291 dX12_undo_11 (rg_ hC T0.1) T0.2.1 rfl ?_
    refine g_iconst C (n := 1) dX12_undo_14 (by decide) ?_
    refine g_isub C dX12_undo_15 ?_
    obtain ⟨v2, ev2, h⟩ := lt_e h
    refine g_putf C (k := 77) (kd := 0) okX12 (by decide) kf_RX12_291 dX12_undo_16 (rg_ hC T0.1) T0.2.1 rfl rfl nvI (Or.inl rfl) v2 ev2 ?_
    refine g_iconst C (n := 0) dX12_undo_19 (by decide) ?_
    refine g_istore_n C (f := 1) (ls' := [(1, (0, 0)), (0, (2, x0))]) dX12_undo_20 (by decide) rfl ?_
    refine g_sub [1, 0] rfl rfl ?_
    exact tX12_undo_21 C hr hlk hC _ _ _ _ T0 h
  · replace h := if_t h c1
    refine g_iconst C (n := 0) dX12_undo_7 (by decide) ?_
    cases h
    exact g_zret C dX12_undo_8 hr hlk (Or.inl rfl)
theorem dX12_units_0 : decode cX12_units 0 = .ok (.iload_n 1, 1) := by decide +kernel
theorem dX12_units_1 : decode cX12_units 1 = .ok (.iconst 0, 1) := by decide +kernel
theorem dX12_units_2 : decode cX12_units 2 = .ok (.iconst 3, 1) := by decide +kernel
theorem dX12_units_3 : decode cX12_units 3 = .ok (.invokestatic 334, 3) := by decide +kernel
theorem dX12_units_6 : decode cX12_units 6 = .ok (.ifCond .eq 48, 3) := by decide +kernel
theorem dX12_units_9 : decode cX12_units 9 = .ok (.iload_n 2, 1) := by decide +kernel
theorem dX12_units_10 : decode cX12_units 10 = .ok (.iconst 1, 1) := by decide +kernel
theorem dX12_units_11 : decode cX12_units 11 = .ok (.iconst 4, 1) := by decide +kernel
theorem dX12_units_12 : decode cX12_units 12 = .ok (.invokestatic 334, 3) := by decide +kernel
theorem dX12_units_15 : decode cX12_units 15 = .ok (.ifCond .eq 39, 3) := by decide +kernel
theorem dX12_units_18 : decode cX12_units 18 = .ok (.iload_n 3, 1) := by decide +kernel
theorem dX12_units_19 : decode cX12_units 19 = .ok (.iconst 1, 1) := by decide +kernel
theorem dX12_units_20 : decode cX12_units 20 = .ok (.bipush 6, 2) := by decide +kernel
theorem dX12_units_22 : decode cX12_units 22 = .ok (.invokestatic 334, 3) := by decide +kernel
theorem dX12_units_25 : decode cX12_units 25 = .ok (.ifCond .eq 29, 3) := by decide +kernel
theorem dX12_units_28 : decode cX12_units 28 = .ok (.aload_n 0, 1) := by decide +kernel
theorem dX12_units_29 : decode cX12_units 29 = .ok (.getfield 85, 3) := by decide +kernel
theorem dX12_units_32 : decode cX12_units 32 = .ok (.bipush 39, 2) := by decide +kernel
theorem dX12_units_34 : decode cX12_units 34 = .ok (.iload_n 1, 1) := by decide +kernel
theorem dX12_units_35 : decode cX12_units 35 = .ok (.iadd, 1) := by decide +kernel
theorem dX12_units_36 : decode cX12_units 36 = .ok (.iaload, 1) := by decide +kernel
theorem dX12_units_37 : decode cX12_units 37 = .ok (.iload_n 2, 1) := by decide +kernel
theorem dX12_units_38 : decode cX12_units 38 = .ok (.if_icmp .ne 18, 3) := by decide +kernel
theorem dX12_units_41 : decode cX12_units 41 = .ok (.aload_n 0, 1) := by decide +kernel
theorem dX12_units_42 : decode cX12_units 42 = .ok (.getfield 85, 3) := by decide +kernel
theorem dX12_units_45 : decode cX12_units 45 = .ok (.bipush 43, 2) := by decide +kernel
theorem dX12_units_47 : decode cX12_units 47 = .ok (.iload_n 1, 1) := by decide +kernel
theorem dX12_units_48 : decode cX12_units 48 = .ok (.iadd, 1) := by decide +kernel
theorem dX12_units_49 : decode cX12_units 49 = .ok (.iaload, 1) := by decide +kernel
theorem dX12_units_50 : decode cX12_units 50 = .ok (.iload_n 3, 1) := by decide +kernel
theorem dX12_units_51 : decode cX12_units 51 = .ok (.if_icmp .ne 5, 3) := by decide +kernel
theorem dX12_units_54 : decode cX12_units 54 = .ok (.iconst 0, 1) := by decide +kernel
theorem dX12_units_55 : decode cX12_units 55 = .ok (.ireturn, 1) := by decide +kernel
theorem dX12_units_56 : decode cX12_units 56 = .ok (.aload_n 0, 1) := by decide +kernel
theorem dX12_units_57 : decode cX12_units 57 = .ok (.invokevirtual 476, 3) := by decide +kernel
theorem dX12_units_60 : decode cX12_units 60 = .ok (.aload_n 0, 1) := by decide +kernel
theorem dX12_units_61 : decode cX12_units 61 = .ok (.getfield 88, 3) := by decide +kernel
theorem dX12_units_64 : decode cX12_units 64 = .ok (.bipush 39, 2) := by decide +kernel
theorem dX12_units_66 : decode cX12_units 66 = .ok (.iload_n 1, 1) := by decide +kernel
theorem dX12_units_67 : decode cX12_units 67 = .ok (.iadd, 1) := by decide +kernel
theorem dX12_units_68 : decode cX12_units 68 = .ok (.iload_n 2, 1) := by decide +kernel
theorem dX12_units_69 : decode cX12_units 69 = .ok (.iastore, 1) := by decide +kernel
theorem dX12_units_70 : decode cX12_units 70 = .ok (.aload_n 0, 1) := by decide +kernel
theorem dX12_units_71 : decode cX12_units 71 = .ok (.getfield 88, 3) := by decide +kernel
theorem dX12_units_74 : decode cX12_units 74 = .ok (.bipush 43, 2) := by decide +kernel
theorem dX12_units_76 : decode cX12_units 76 = .ok (.iload_n 1, 1) := by decide +kernel
theorem dX12_units_77 : decode cX12_units 77 = .ok (.iadd, 1) := by decide +kernel
theorem dX12_units_78 : decode cX12_units 78 = .ok (.iload_n 3, 1) := by decide +kernel
theorem dX12_units_79 : decode cX12_units 79 = .ok (.iastore, 1) := by decide +kernel
theorem dX12_units_80 : decode cX12_units 80 = .ok (.aload_n 0, 1) := by decide +kernel
theorem dX12_units_81 : decode cX12_units 81 = .ok (.invokevirtual 548, 3) := by decide +kernel
theorem dX12_units_84 : decode cX12_units 84 = .ok (.iconst 1, 1) := by decide +kernel
theorem dX12_units_85 : decode cX12_units 85 = .ok (.ireturn, 1) := by decide +kernel
def fX12_units_56 (x0 x1 x2 x3 : Int) (v : V_) : Option (Int × V_) :=
  bd_ (fX12_copies x0 v) fun q10 =>
  ck_ (0 ≤ wr_ (39 + x1) ∧ wr_ (39 + x1) < 47) (
  lt_ (up_ q10.2 (x0 + 24) (wr_ (39 + x1)) x2) fun v13 =>
  ck_ (0 ≤ wr_ (43 + x1) ∧ wr_ (43 + x1) < 47) (
  lt_ (up_ v13 (x0 + 24) (wr_ (43 + x1)) x3) fun v16 =>
  bd_ (fX12_records x0 v16) fun q17 =>
  some (1, q17.2)))
def fX12_units (x0 x1 x2 x3 : Int) (v : V_) : Option (Int × V_) :=
  bd_ (fX12_in x1 0 3 v) fun q1 =>
  if q1.1 = 0 then (
    some (0, q1.2))
  else (
    bd_ (fX12_in x2 1 4 q1.2) fun q3 =>
    if q3.1 = 0 then (
      some (0, q3.2))
    else (
      bd_ (fX12_in x3 1 6 q3.2) fun q5 =>
      if q5.1 = 0 then (
        some (0, q5.2))
      else (
        ck_ (0 ≤ wr_ (39 + x1) ∧ wr_ (39 + x1) < 47) (
        if (q5.2 (x0 + 23) (wr_ (39 + x1))) = x2 then (
          ck_ (0 ≤ wr_ (43 + x1) ∧ wr_ (43 + x1) < 47) (
          if (q5.2 (x0 + 23) (wr_ (43 + x1))) = x3 then (
            some (0, q5.2))
          else (
            fX12_units_56 x0 x1 x2 x3 q5.2)))
        else (
          fX12_units_56 x0 x1 x2 x3 q5.2)))))
section
variable {E : En_} {p : Program} {l : Launch} {e : Env} {s : State} {m : MethodId} {args : Array Value} {below : List Frame} {meth : Method} {c : Code} {sz : Int}
theorem tX12_units_56 (C : MC_ E p s m c cX12_units 4 RX12) (hr : meth.sig.returnType = (some FieldType.boolean)) (hlk : meth.locks = false) (hC : Cl_ E.2.2.2.2.2 sz) {out : Int × V_} (x0 x1 x2 x3 : Int) (v : V_) (T0 : (E.2.2.2.2.2 x0 ∧ ty_ x0 = 12 ∧ ln_ x0 = 0)) (h : fX12_units_56 x0 x1 x2 x3 v = some out) : G_ E p l e (rm_ 2 42) s m args below meth c 4 sz (Q_ E below args s sz sz 0 out.1 out.2) 56 [(0, (2, x0)), (1, (0, x1)), (2, (0, x2)), (3, (0, x3))] [] v sz := by
  rw [fX12_units_56] at h
  refine g_aload_n C (f := 0) dX12_units_56 0 rfl ?_
  obtain ⟨q10, eq10, h⟩ := bd_e h
  refine g_cV C [] (cX12_copies_ok l hC T0 eq10) okX12 T0.2.1 (rg_ hC T0.1) km_RX12_476 cv_X12_copies rfl (by decide) rfl rfl (Nat.le_of_ble_eq_true rfl) dX12_units_57 ?_
  refine g_aload_n C (f := 0) dX12_units_60 0 rfl ?_
  have F11 := fX12_37 hC T0.1 T0.2.1
  refine g_getR C (k := 37) (o := 24) okX12 (by decide) kf_RX12_88 dX12_units_61 hC T0.1 T0.2.1 rfl rfl ?_
  refine g_bipush C (n := 39) dX12_units_64 (by decide) ?_
  refine g_iload_n C (f := 1) dX12_units_66 1 rfl ?_
  refine g_iadd C dX12_units_67 ?_
  refine g_iload_n C (f := 2) dX12_units_68 2 rfl ?_
  obtain ⟨c12, h⟩ := ck_e h
  obtain ⟨v13, ev13, h⟩ := lt_e h
  refine g_iast C 47 dX12_units_69 (rg_ hC F11.1) F11.2.1 F11.2.2 c12 v13 ev13 ?_
  refine g_aload_n C (f := 0) dX12_units_70 0 rfl ?_
  have F14 := fX12_37 hC T0.1 T0.2.1
  refine g_getR C (k := 37) (o := 24) okX12 (by decide) kf_RX12_88 dX12_units_71 hC T0.1 T0.2.1 rfl rfl ?_
  refine g_bipush C (n := 43) dX12_units_74 (by decide) ?_
  refine g_iload_n C (f := 1) dX12_units_76 1 rfl ?_
  refine g_iadd C dX12_units_77 ?_
  refine g_iload_n C (f := 3) dX12_units_78 3 rfl ?_
  obtain ⟨c15, h⟩ := ck_e h
  obtain ⟨v16, ev16, h⟩ := lt_e h
  refine g_iast C 47 dX12_units_79 (rg_ hC F14.1) F14.2.1 F14.2.2 c15 v16 ev16 ?_
  refine g_aload_n C (f := 0) dX12_units_80 0 rfl ?_
  obtain ⟨q17, eq17, h⟩ := bd_e h
  refine g_cV C [] (cX12_records_ok l hC T0 eq17) okX12 T0.2.1 (rg_ hC T0.1) km_RX12_548 cv_X12_records rfl (by decide) rfl rfl (Nat.le_of_ble_eq_true rfl) dX12_units_81 ?_
  refine g_iconst C (n := 1) dX12_units_84 (by decide) ?_
  cases h
  exact g_zret C dX12_units_85 hr hlk (Or.inr rfl)
end
theorem cX12_units_ok (l : Launch) {E : En_} {sz : Int} (hC : Cl_ E.2.2.2.2.2 sz) {x0 x1 x2 x3 : Int} {v : V_} {out : Int × V_} (T0 : (E.2.2.2.2.2 x0 ∧ ty_ x0 = 12 ∧ ln_ x0 = 0)) (h : fX12_units x0 x1 x2 x3 v = some out) : Met l yX12_units [.code yX12_units cX12_units 4 (some FieldType.boolean)] (rm_ 2 42) (Pc_ E sz v [(2, x0), (0, x1), (0, x2), (0, x3)]) (Qc_ E sz 0 out.1 out.2) 0 0 (fun q => E.1 < q) := by
  refine met_G0 RX12 (by decide +kernel) rfl (Nat.le_of_ble_eq_true rfl) ?_
  intro p e s m args below meth c C hr hlk
  rw [fX12_units] at h
  refine g_iload_n C (f := 1) dX12_units_0 1 rfl ?_
  refine g_iconst C (n := 0) dX12_units_1 (by decide) ?_
  refine g_iconst C (n := 3) dX12_units_2 (by decide) ?_
  obtain ⟨q1, eq1, h⟩ := bd_e h
  refine g_cS C [(0, x1), (0, 0), (0, 3)] (cX12_in_ok l hC eq1) km_RX12_334 cs_X12_in rfl (by decide) rfl rfl (Nat.le_of_ble_eq_true rfl) dX12_units_3 ?_
  refine g_if_eq C 54 dX12_units_6 rfl (fun c2 => ?_) (fun c2 => ?_)
  · replace h := if_t h c2
    refine g_iconst C (n := 0) dX12_units_54 (by decide) ?_
    cases h
    exact g_zret C dX12_units_55 hr hlk (Or.inl rfl)
  · replace h := if_f h c2
    refine g_iload_n C (f := 2) dX12_units_9 2 rfl ?_
    refine g_iconst C (n := 1) dX12_units_10 (by decide) ?_
    refine g_iconst C (n := 4) dX12_units_11 (by decide) ?_
    obtain ⟨q3, eq3, h⟩ := bd_e h
    refine g_cS C [(0, x2), (0, 1), (0, 4)] (cX12_in_ok l hC eq3) km_RX12_334 cs_X12_in rfl (by decide) rfl rfl (Nat.le_of_ble_eq_true rfl) dX12_units_12 ?_
    refine g_if_eq C 54 dX12_units_15 rfl (fun c4 => ?_) (fun c4 => ?_)
    · replace h := if_t h c4
      refine g_iconst C (n := 0) dX12_units_54 (by decide) ?_
      cases h
      exact g_zret C dX12_units_55 hr hlk (Or.inl rfl)
    · replace h := if_f h c4
      refine g_iload_n C (f := 3) dX12_units_18 3 rfl ?_
      refine g_iconst C (n := 1) dX12_units_19 (by decide) ?_
      refine g_bipush C (n := 6) dX12_units_20 (by decide) ?_
      obtain ⟨q5, eq5, h⟩ := bd_e h
      refine g_cS C [(0, x3), (0, 1), (0, 6)] (cX12_in_ok l hC eq5) km_RX12_334 cs_X12_in rfl (by decide) rfl rfl (Nat.le_of_ble_eq_true rfl) dX12_units_22 ?_
      refine g_if_eq C 54 dX12_units_25 rfl (fun c6 => ?_) (fun c6 => ?_)
      · replace h := if_t h c6
        refine g_iconst C (n := 0) dX12_units_54 (by decide) ?_
        cases h
        exact g_zret C dX12_units_55 hr hlk (Or.inl rfl)
      · replace h := if_f h c6
        refine g_aload_n C (f := 0) dX12_units_28 0 rfl ?_
        have F7 := fX12_36 hC T0.1 T0.2.1
        refine g_getR C (k := 36) (o := 23) okX12 (by decide) kf_RX12_85 dX12_units_29 hC T0.1 T0.2.1 rfl rfl ?_
        refine g_bipush C (n := 39) dX12_units_32 (by decide) ?_
        refine g_iload_n C (f := 1) dX12_units_34 1 rfl ?_
        refine g_iadd C dX12_units_35 ?_
        obtain ⟨c8, h⟩ := ck_e h
        refine g_iald C 47 dX12_units_36 (rg_ hC F7.1) F7.2.1 F7.2.2 c8 ?_
        refine g_iload_n C (f := 2) dX12_units_37 2 rfl ?_
        refine g_icmp_ne C 56 dX12_units_38 rfl (fun c9 => ?_) (fun c9 => ?_)
        · replace h := if_f h c9
          refine g_sub [0, 1, 2, 3] rfl rfl ?_
          exact tX12_units_56 C hr hlk hC _ _ _ _ _ T0 h
        · replace h := if_t h c9
          refine g_aload_n C (f := 0) dX12_units_41 0 rfl ?_
          have F18 := fX12_36 hC T0.1 T0.2.1
          refine g_getR C (k := 36) (o := 23) okX12 (by decide) kf_RX12_85 dX12_units_42 hC T0.1 T0.2.1 rfl rfl ?_
          refine g_bipush C (n := 43) dX12_units_45 (by decide) ?_
          refine g_iload_n C (f := 1) dX12_units_47 1 rfl ?_
          refine g_iadd C dX12_units_48 ?_
          obtain ⟨c19, h⟩ := ck_e h
          refine g_iald C 47 dX12_units_49 (rg_ hC F18.1) F18.2.1 F18.2.2 c19 ?_
          refine g_iload_n C (f := 3) dX12_units_50 3 rfl ?_
          refine g_icmp_ne C 56 dX12_units_51 rfl (fun c20 => ?_) (fun c20 => ?_)
          · replace h := if_f h c20
            refine g_sub [0, 1, 2, 3] rfl rfl ?_
            exact tX12_units_56 C hr hlk hC _ _ _ _ _ T0 h
          · replace h := if_t h c20
            refine g_iconst C (n := 0) dX12_units_54 (by decide) ?_
            cases h
            exact g_zret C dX12_units_55 hr hlk (Or.inl rfl)
