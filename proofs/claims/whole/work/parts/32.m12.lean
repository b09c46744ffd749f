theorem dX6_wouldFault_0 : decode cX6_wouldFault 0 = .ok (.aload_n 1, 1) := by decide +kernel
theorem dX6_wouldFault_1 : decode cX6_wouldFault 1 = .ok (.getfield 222, 3) := by decide +kernel
theorem dX6_wouldFault_4 : decode cX6_wouldFault 4 = .ok (.tableswitch 65 3 5 #[28, 45, 45], 28) := by decide +kernel
theorem dX6_wouldFault_32 : decode cX6_wouldFault 32 = .ok (.aload_n 0, 1) := by decide +kernel
theorem dX6_wouldFault_33 : decode cX6_wouldFault 33 = .ok (.aload_n 1, 1) := by decide +kernel
theorem dX6_wouldFault_34 : decode cX6_wouldFault 34 = .ok (.getfield 225, 3) := by decide +kernel
theorem dX6_wouldFault_37 : decode cX6_wouldFault 37 = .ok (.invokevirtual 117, 3) := by decide +kernel
theorem dX6_wouldFault_40 : decode cX6_wouldFault 40 = .ok (.ifCond .ne 7, 3) := by decide +kernel
theorem dX6_wouldFault_43 : decode cX6_wouldFault 43 = .ok (.iconst 1, 1) := by decide +kernel
theorem dX6_wouldFault_44 : decode cX6_wouldFault 44 = .ok (.goto 4, 3) := by decide +kernel
theorem dX6_wouldFault_47 : decode cX6_wouldFault 47 = .ok (.iconst 0, 1) := by decide +kernel
theorem dX6_wouldFault_48 : decode cX6_wouldFault 48 = .ok (.ireturn, 1) := by decide +kernel
theorem dX6_wouldFault_49 : decode cX6_wouldFault 49 = .ok (.aload_n 0, 1) := by decide +kernel
theorem dX6_wouldFault_50 : decode cX6_wouldFault 50 = .ok (.aload_n 1, 1) := by decide +kernel
theorem dX6_wouldFault_51 : decode cX6_wouldFault 51 = .ok (.getfield 112, 3) := by decide +kernel
theorem dX6_wouldFault_54 : decode cX6_wouldFault 54 = .ok (.invokevirtual 117, 3) := by decide +kernel
theorem dX6_wouldFault_57 : decode cX6_wouldFault 57 = .ok (.invokestatic 228, 3) := by decide +kernel
theorem dX6_wouldFault_60 : decode cX6_wouldFault 60 = .ok (.ifCond .ne 7, 3) := by decide +kernel
theorem dX6_wouldFault_63 : decode cX6_wouldFault 63 = .ok (.iconst 1, 1) := by decide +kernel
theorem dX6_wouldFault_64 : decode cX6_wouldFault 64 = .ok (.goto 4, 3) := by decide +kernel
theorem dX6_wouldFault_67 : decode cX6_wouldFault 67 = .ok (.iconst 0, 1) := by decide +kernel
theorem dX6_wouldFault_68 : decode cX6_wouldFault 68 = .ok (.ireturn, 1) := by decide +kernel
theorem dX6_wouldFault_69 : decode cX6_wouldFault 69 = .ok (.iconst 0, 1) := by decide +kernel
theorem dX6_wouldFault_70 : decode cX6_wouldFault 70 = .ok (.ireturn, 1) := by decide +kernel
def fX6_wouldFault (x0 x1 : Int) (v : V_) : Option (Int × V_) :=
  if (v x1 0) = 3 then (
    bd_ (fX6_valueOf x0 (v x1 3) v) fun q2 =>
    if q2.1 = 0 then (
      some (1, q2.2))
    else (
      some (0, q2.2)))
  else (
  if (v x1 0) = 4 then (
    bd_ (fX6_valueOf x0 (v x1 2) v) fun q5 =>
    bd_ (fX11_isCell q5.1 q5.2) fun q6 =>
    if q6.1 = 0 then (
      some (1, q6.2))
    else (
      some (0, q6.2)))
  else (
  if (v x1 0) = 5 then (
    bd_ (fX6_valueOf x0 (v x1 2) v) fun q9 =>
    bd_ (fX11_isCell q9.1 q9.2) fun q10 =>
    if q10.1 = 0 then (
      some (1, q10.2))
    else (
      some (0, q10.2)))
  else (
  some (0, v))))
theorem cX6_wouldFault_ok (l : Launch) {E : En_} {sz : Int} (hC : Cl_ E.2.2.2.2.2 sz) {x0 x1 : Int} {v : V_} {out : Int × V_} (T0 : (E.2.2.2.2.2 x0 ∧ ty_ x0 = 6 ∧ ln_ x0 = 0)) (T1 : (E.2.2.2.2.2 x1 ∧ ty_ x1 = 8 ∧ ln_ x1 = 0)) (h : fX6_wouldFault x0 x1 v = some out) : Met l yX6_wouldFault [.code yX6_wouldFault cX6_wouldFault 2 (some FieldType.boolean)] (rm_ 1 21) (Pc_ E sz v [(2, x0), (2, x1)]) (Qc_ E sz 0 out.1 out.2) 0 0 (fun q => E.1 < q) := by
  refine met_G0 RX6 (by decide +kernel) rfl (Nat.le_of_ble_eq_true rfl) ?_
  intro p e s m args below meth c C hr hlk
  rw [fX6_wouldFault] at h
  refine g_aload_n C (f := 1) dX6_wouldFault_0 1 rfl ?_
  refine g_getf C (k := 0) (kd := 0) okX8 (by decide) kf_RX6_222 dX6_wouldFault_1 (rg_ hC T1.1) T1.2.1 rfl ?_
  by_cases c1 : (v x1 0) = 3
  · replace h := if_t h c1
    refine g_tin C 32 dX6_wouldFault_4 3 c1 (by decide) (by decide) rfl rfl ?_
    refine g_aload_n C (f := 0) dX6_wouldFault_32 0 rfl ?_
    refine g_aload_n C (f := 1) dX6_wouldFault_33 1 rfl ?_
    refine g_getf C (k := 3) (kd := 0) okX8 (by decide) kf_RX6_225 dX6_wouldFault_34 (rg_ hC T1.1) T1.2.1 rfl ?_
    obtain ⟨q2, eq2, h⟩ := bd_e h
    refine g_cV C [(0, v x1 3)] (cX6_valueOf_ok l hC T0 eq2) okX6 T0.2.1 (rg_ hC T0.1) km_RX6_117 cv_X6_valueOf rfl (by decide) rfl rfl (Nat.le_of_ble_eq_true rfl) dX6_wouldFault_37 ?_
    refine g_if_ne C 47 dX6_wouldFault_40 rfl (fun c3 => ?_) (fun c3 => ?_)
    · replace h := if_f h c3
      refine g_iconst C (n := 0) dX6_wouldFault_47 (by decide) ?_
      cases h
      exact g_zret C dX6_wouldFault_48 hr hlk (Or.inl rfl)
    · replace h := if_t h c3
      refine g_iconst C (n := 1) dX6_wouldFault_43 (by decide) ?_
      refine g_goto C 48 dX6_wouldFault_44 rfl ?_
      cases h
      exact g_zret C dX6_wouldFault_48 hr hlk (Or.inr rfl)
  replace h := if_f h c1
  by_cases c4 : (v x1 0) = 4
  · replace h := if_t h c4
    refine g_tin C 49 dX6_wouldFault_4 4 c4 (by decide) (by decide) rfl rfl ?_
    refine g_aload_n C (f := 0) dX6_wouldFault_49 0 rfl ?_
    refine g_aload_n C (f := 1) dX6_wouldFault_50 1 rfl ?_
    refine g_getf C (k := 2) (kd := 0) okX8 (by decide) kf_RX6_112 dX6_wouldFault_51 (rg_ hC T1.1) T1.2.1 rfl ?_
    obtain ⟨q5, eq5, h⟩ := bd_e h
    refine g_cV C [(0, v x1 2)] (cX6_valueOf_ok l hC T0 eq5) okX6 T0.2.1 (rg_ hC T0.1) km_RX6_117 cv_X6_valueOf rfl (by decide) rfl rfl (Nat.le_of_ble_eq_true rfl) dX6_wouldFault_54 ?_
    obtain ⟨q6, eq6, h⟩ := bd_e h
    refine g_cSN C [(0, q5.1)] (cX11_isCell_ok l hC eq6) km_RX6_228 cs_X11_isCell rfl (by decide) rfl rfl (Nat.le_of_ble_eq_true rfl) dX6_wouldFault_57 ?_
    refine g_if_ne C 67 dX6_wouldFault_60 rfl (fun c7 => ?_) (fun c7 => ?_)
    · replace h := if_f h c7
      refine g_iconst C (n := 0) dX6_wouldFault_67 (by decide) ?_
      cases h
      exact g_zret C dX6_wouldFault_68 hr hlk (Or.inl rfl)
    · replace h := if_t h c7
      refine g_iconst C (n := 1) dX6_wouldFault_63 (by decide) ?_
      refine g_goto C 68 dX6_wouldFault_64 rfl ?_
      cases h
      exact g_zret C dX6_wouldFault_68 hr hlk (Or.inr rfl)
  replace h := if_f h c4
  by_cases c8 : (v x1 0) = 5
  · replace h := if_t h c8
    refine g_tin C 49 dX6_wouldFault_4 5 c8 (by decide) (by decide) rfl rfl ?_
    refine g_aload_n C (f := 0) dX6_wouldFault_49 0 rfl ?_
    refine g_aload_n C (f := 1) dX6_wouldFault_50 1 rfl ?_
    refine g_getf C (k := 2) (kd := 0) okX8 (by decide) kf_RX6_112 dX6_wouldFault_51 (rg_ hC T1.1) T1.2.1 rfl ?_
    obtain ⟨q9, eq9, h⟩ := bd_e h
    refine g_cV C [(0, v x1 2)] (cX6_valueOf_ok l hC T0 eq9) okX6 T0.2.1 (rg_ hC T0.1) km_RX6_117 cv_X6_valueOf rfl (by decide) rfl rfl (Nat.le_of_ble_eq_true rfl) dX6_wouldFault_54 ?_
    obtain ⟨q10, eq10, h⟩ := bd_e h
    refine g_cSN C [(0, q9.1)] (cX11_isCell_ok l hC eq10) km_RX6_228 cs_X11_isCell rfl (by decide) rfl rfl (Nat.le_of_ble_eq_true rfl) dX6_wouldFault_57 ?_
    refine g_if_ne C 67 dX6_wouldFault_60 rfl (fun c11 => ?_) (fun c11 => ?_)
    · replace h := if_f h c11
      refine g_iconst C (n := 0) dX6_wouldFault_67 (by decide) ?_
      cases h
      exact g_zret C dX6_wouldFault_68 hr hlk (Or.inl rfl)
    · replace h := if_t h c11
      refine g_iconst C (n := 1) dX6_wouldFault_63 (by decide) ?_
      refine g_goto C 68 dX6_wouldFault_64 rfl ?_
      cases h
      exact g_zret C dX6_wouldFault_68 hr hlk (Or.inr rfl)
  replace h := if_f h c8
  refine g_tdef C (x := v x1 0) 69 dX6_wouldFault_4 (by intro a ha h1 h2; exact absurd h2 (by omega)) rfl ?_
  refine g_iconst C (n := 0) dX6_wouldFault_69 (by decide) ?_
  cases h
  exact g_zret C dX6_wouldFault_70 hr hlk (Or.inl rfl)
theorem dX6_doCopied_0 : decode cX6_doCopied 0 = .ok (.aload_n 1, 1) := by decide +kernel
theorem dX6_doCopied_1 : decode cX6_doCopied 1 = .ok (.getfield 154, 3) := by decide +kernel
theorem dX6_doCopied_4 : decode cX6_doCopied 4 = .ok (.iload_n 2, 1) := by decide +kernel
theorem dX6_doCopied_5 : decode cX6_doCopied 5 = .ok (.aaload, 1) := by decide +kernel
theorem dX6_doCopied_6 : decode cX6_doCopied 6 = .ok (.getfield 187, 3) := by decide +kernel
theorem dX6_doCopied_9 : decode cX6_doCopied 9 = .ok (.istore_n 3, 1) := by decide +kernel
theorem dX6_doCopied_10 : decode cX6_doCopied 10 = .ok (.iload_n 3, 1) := by decide +kernel
theorem dX6_doCopied_11 : decode cX6_doCopied 11 = .ok (.iconst 1, 1) := by decide +kernel
theorem dX6_doCopied_12 : decode cX6_doCopied 12 = .ok (.iadd, 1) := by decide +kernel
theorem dX6_doCopied_13 : decode cX6_doCopied 13 = .ok (.istore 4, 2) := by decide +kernel
theorem dX6_doCopied_15 : decode cX6_doCopied 15 = .ok (.iconst 0, 1) := by decide +kernel
theorem dX6_doCopied_16 : decode cX6_doCopied 16 = .ok (.istore 5, 2) := by decide +kernel
theorem dX6_doCopied_18 : decode cX6_doCopied 18 = .ok (.iload 5, 2) := by decide +kernel
theorem dX6_doCopied_20 : decode cX6_doCopied 20 = .ok (.iload_n 2, 1) := by decide +kernel
theorem dX6_doCopied_21 : decode cX6_doCopied 21 = .ok (.if_icmp .ge 84, 3) := by decide +kernel
theorem dX6_doCopied_24 : decode cX6_doCopied 24 = .ok (.aload_n 1, 1) := by decide +kernel
theorem dX6_doCopied_25 : decode cX6_doCopied 25 = .ok (.getfield 154, 3) := by decide +kernel
theorem dX6_doCopied_28 : decode cX6_doCopied 28 = .ok (.iload 5, 2) := by decide +kernel
theorem dX6_doCopied_30 : decode cX6_doCopied 30 = .ok (.aaload, 1) := by decide +kernel
theorem dX6_doCopied_31 : decode cX6_doCopied 31 = .ok (.astore 6, 2) := by decide +kernel
theorem dX6_doCopied_33 : decode cX6_doCopied 33 = .ok (.aload 6, 2) := by decide +kernel
theorem dX6_doCopied_35 : decode cX6_doCopied 35 = .ok (.getfield 187, 3) := by decide +kernel
theorem dX6_doCopied_38 : decode cX6_doCopied 38 = .ok (.iload_n 3, 1) := by decide +kernel
theorem dX6_doCopied_39 : decode cX6_doCopied 39 = .ok (.if_icmp .le 60, 3) := by decide +kernel
theorem dX6_doCopied_42 : decode cX6_doCopied 42 = .ok (.aload_n 0, 1) := by decide +kernel
theorem dX6_doCopied_43 : decode cX6_doCopied 43 = .ok (.aload 6, 2) := by decide +kernel
theorem dX6_doCopied_45 : decode cX6_doCopied 45 = .ok (.getfield 194, 3) := by decide +kernel
theorem dX6_doCopied_48 : decode cX6_doCopied 48 = .ok (.invokevirtual 101, 3) := by decide +kernel
theorem dX6_doCopied_51 : decode cX6_doCopied 51 = .ok (.ifCond .eq 8, 3) := by decide +kernel
theorem dX6_doCopied_54 : decode cX6_doCopied 54 = .ok (.aload_n 0, 1) := by decide +kernel
theorem dX6_doCopied_55 : decode cX6_doCopied 55 = .ok (.invokevirtual 105, 3) := by decide +kernel
theorem dX6_doCopied_58 : decode cX6_doCopied 58 = .ok (.return_, 1) := by decide +kernel
theorem dX6_doCopied_59 : decode cX6_doCopied 59 = .ok (.aload_n 0, 1) := by decide +kernel
theorem dX6_doCopied_60 : decode cX6_doCopied 60 = .ok (.aload 6, 2) := by decide +kernel
theorem dX6_doCopied_62 : decode cX6_doCopied 62 = .ok (.getfield 194, 3) := by decide +kernel
theorem dX6_doCopied_65 : decode cX6_doCopied 65 = .ok (.aload_n 0, 1) := by decide +kernel
theorem dX6_doCopied_66 : decode cX6_doCopied 66 = .ok (.aload 6, 2) := by decide +kernel
theorem dX6_doCopied_68 : decode cX6_doCopied 68 = .ok (.getfield 194, 3) := by decide +kernel
theorem dX6_doCopied_71 : decode cX6_doCopied 71 = .ok (.invokevirtual 108, 3) := by decide +kernel
theorem dX6_doCopied_74 : decode cX6_doCopied 74 = .ok (.aload_n 0, 1) := by decide +kernel
theorem dX6_doCopied_75 : decode cX6_doCopied 75 = .ok (.aload 6, 2) := by decide +kernel
theorem dX6_doCopied_77 : decode cX6_doCopied 77 = .ok (.getfield 194, 3) := by decide +kernel
theorem dX6_doCopied_80 : decode cX6_doCopied 80 = .ok (.getfield 112, 3) := by decide +kernel
theorem dX6_doCopied_83 : decode cX6_doCopied 83 = .ok (.invokevirtual 117, 3) := by decide +kernel
theorem dX6_doCopied_86 : decode cX6_doCopied 86 = .ok (.invokevirtual 120, 3) := by decide +kernel
theorem dX6_doCopied_89 : decode cX6_doCopied 89 = .ok (.iload 4, 2) := by decide +kernel
theorem dX6_doCopied_91 : decode cX6_doCopied 91 = .ok (.aload 6, 2) := by decide +kernel
theorem dX6_doCopied_93 : decode cX6_doCopied 93 = .ok (.getfield 219, 3) := by decide +kernel
theorem dX6_doCopied_96 : decode cX6_doCopied 96 = .ok (.iadd, 1) := by decide +kernel
theorem dX6_doCopied_97 : decode cX6_doCopied 97 = .ok (.istore 4, 2) := by decide +kernel
theorem dX6_doCopied_99 : decode cX6_doCopied 99 = .ok (.iinc 5 1, 3) := by decide +kernel
theorem dX6_doCopied_102 : decode cX6_doCopied 102 = .ok (.goto (-84), 3) := by decide +kernel
theorem dX6_doCopied_105 : decode cX6_doCopied 105 = .ok (.aload_n 0, 1) := by decide +kernel
theorem dX6_doCopied_106 : decode cX6_doCopied 106 = .ok (.dup, 1) := by decide +kernel
theorem dX6_doCopied_107 : decode cX6_doCopied 107 = .ok (.getfield 62, 3) := by decide +kernel
theorem dX6_doCopied_110 : decode cX6_doCopied 110 = .ok (.iload 4, 2) := by decide +kernel
theorem dX6_doCopied_112 : decode cX6_doCopied 112 = .ok (.iadd, 1) := by decide +kernel
theorem dX6_doCopied_113 : decode cX6_doCopied 113 = .ok (.putfield 62, 3) := by decide +kernel
theorem dX6_doCopied_116 : decode cX6_doCopied 116 = .ok (.return_, 1) := by decide +kernel
def fX6_doCopied_18 : Nat → Int → Int → Int → Int → Int → Int → V_ → Option (Int × V_)
  | 0, _, _, _, _, _, _, _ => none
  | n + 1, x0, x1, x2, x3, x4, x5, v =>
    if x2 ≤ x5 then (
      lt_ (up_ v x0 5 (wr_ ((v x0 5) + x4))) fun v7 =>
      some (0, v7))
    else (
      ck_ (0 ≤ x5 ∧ x5 < 34) (
      lt_ ((x1 + 2) + (5 + 2 * x5)) fun y11 =>
      if (v y11 7) ≤ x3 then (
        lt_ (wr_ (x5 + 1)) fun y14 =>
        (fX6_doCopied_18 n) x0 x1 x2 x3 x4 y14 v)
      else (
        bd_ (fX6_wouldFault x0 (y11 + 1) v) fun q16 =>
        if q16.1 = 0 then (
          bd_ (fX6_resultOf x0 (y11 + 1) q16.2) fun q20 =>
          bd_ (fX6_valueOf x0 (q20.2 (y11 + 1) 2) q20.2) fun q22 =>
          bd_ (fX6_settle x0 (y11 + 1) q20.1 q22.1 q22.2) fun q23 =>
          lt_ (wr_ (x4 + (q23.2 y11 3))) fun y24 =>
          lt_ (wr_ (x5 + 1)) fun y25 =>
          (fX6_doCopied_18 n) x0 x1 x2 x3 y24 y25 q23.2)
        else (
          bd_ (fX6_fault x0 q16.2) fun q26 =>
          some (0, q26.2)))))
def fX6_doCopied (x0 x1 x2 : Int) (v : V_) : Option (Int × V_) :=
  ck_ (0 ≤ x2 ∧ x2 < 34) (
  lt_ (v ((x1 + 2) + (5 + 2 * x2)) 7) fun y4 =>
  lt_ (wr_ (y4 + 1)) fun y5 =>
  fX6_doCopied_18 fu_ x0 x1 x2 y4 y5 0 v)
section
variable {E : En_} {p : Program} {l : Launch} {e : Env} {s : State} {m : MethodId} {args : Array Value} {below : List Frame} {meth : Method} {c : Code} {sz : Int}
theorem tX6_doCopied_18 (C : MC_ E p s m c cX6_doCopied 7 RX6) (hr : meth.sig.returnType = (none : Option FieldType)) (hlk : meth.locks = false) (hC : Cl_ E.2.2.2.2.2 sz) {out : Int × V_} : ∀ (n : Nat) (x0 x1 x2 x3 x4 x5 : Int) (v : V_), (E.2.2.2.2.2 x0 ∧ ty_ x0 = 6 ∧ ln_ x0 = 0) → (E.2.2.2.2.2 x1 ∧ ty_ x1 = 10 ∧ ln_ x1 = 0) → fX6_doCopied_18 n x0 x1 x2 x3 x4 x5 v = some out → G_ E p l e (rm_ 2 44) s m args below meth c 7 sz (Q_ E below args s sz sz 9 out.1 out.2) 18 [(0, (2, x0)), (1, (2, x1)), (2, (0, x2)), (3, (0, x3)), (4, (0, x4)), (5, (0, x5))] [] v sz := by
  intro n
  induction n with
  | zero =>
    intro x0 x1 x2 x3 x4 x5 v T0 T1 h
    cases h
  | succ n H_18 =>
    intro x0 x1 x2 x3 x4 x5 v T0 T1 h
    rw [fX6_doCopied_18] at h
    refine g_iload C (i := 5) dX6_doCopied_18 5 rfl ?_
    refine g_iload_n C (f := 2) dX6_doCopied_20 2 rfl ?_
    refine g_icmp_ge C 105 dX6_doCopied_21 rfl (fun c6 => ?_) (fun c6 => ?_)
    · replace h := if_t h c6
      refine g_aload_n C (f := 0) dX6_doCopied_105 0 rfl ?_
      refine g_dup C (Nat.ne_of_beq_eq_false rfl) dX6_doCopied_106 ?_
      refine g_getf C (k := 5) (kd := 0) okX6 (by decide) kf_RX6_62 dX6_doCopied_107 (rg_ hC T0.1) T0.2.1 rfl ?_
      refine g_iload C (i := 4) dX6_doCopied_110 4 rfl ?_
      refine g_iadd C dX6_doCopied_112 ?_
      obtain ⟨v7, ev7, h⟩ := lt_e h
      refine g_putf C (k := 5) (kd := 0) okX6 (by decide) kf_RX6_62 dX6_doCopied_113 (rg_ hC T0.1) T0.2.1 rfl rfl nvI (Or.inl rfl) v7 ev7 ?_
      cases h
      exact g_vret C dX6_doCopied_116 hr hlk
    · replace h := if_f h c6
      refine g_aload_n C (f := 1) dX6_doCopied_24 1 rfl ?_
      have F8 := fX10_2 hC T1.1 T1.2.1
      refine g_getR C (k := 2) (o := 2) okX10 (by decide) kf_RX6_154 dX6_doCopied_25 hC T1.1 T1.2.1 rfl rfl ?_
      refine g_iload C (i := 5) dX6_doCopied_28 5 rfl ?_
      obtain ⟨c9, h⟩ := ck_e h
      have F10 := fE_items (i := x5) hC F8.1 F8.2.1 F8.2.2 c9
      refine g_aald C 26 34 5 2 dX6_doCopied_30 hC F8.1 F8.2.1 F8.2.2 c9 (by decide) oA_items ?_
      obtain ⟨y11, ey11, h⟩ := lt_e h
      refine g_set C ey11 ?_
      have F12 : (E.2.2.2.2.2 y11 ∧ ty_ y11 = 1 ∧ ln_ y11 = 0) := by rw [ey11]; exact F10
      refine g_astore C (i := 6) (ls' := [(6, (2, y11)), (0, (2, x0)), (1, (2, x1)), (2, (0, x2)), (3, (0, x3)), (4, (0, x4)), (5, (0, x5))]) dX6_doCopied_31 (by decide) rfl ?_
      refine g_aload C (i := 6) dX6_doCopied_33 0 rfl ?_
      refine g_getf C (k := 7) (kd := 0) okX1 (by decide) kf_RX6_187 dX6_doCopied_35 (rg_ hC F12.1) F12.2.1 rfl ?_
      refine g_iload_n C (f := 3) dX6_doCopied_38 4 rfl ?_
      refine g_icmp_le C 99 dX6_doCopied_39 rfl (fun c13 => ?_) (fun c13 => ?_)
      · replace h := if_t h c13
        obtain ⟨y14, ey14, h⟩ := lt_e h
        refine g_iincx C (ls' := [(5, (0, y14)), (6, (2, y11)), (0, (2, x0)), (1, (2, x1)), (2, (0, x2)), (3, (0, x3)), (4, (0, x4))]) ey14 dX6_doCopied_99 6 rfl (by decide) (by decide) rfl ?_
        refine g_goto C 18 dX6_doCopied_102 rfl ?_
        refine g_sub [2, 3, 4, 5, 6, 0] rfl rfl ?_
        exact H_18 _ _ _ _ _ _ _ T0 T1 h
      · replace h := if_f h c13
        refine g_aload_n C (f := 0) dX6_doCopied_42 1 rfl ?_
        refine g_aload C (i := 6) dX6_doCopied_43 0 rfl ?_
        have F15 := fX1_0 hC F12.1 F12.2.1
        refine g_getR C (k := 0) (o := 1) okX1 (by decide) kf_RX6_194 dX6_doCopied_45 hC F12.1 F12.2.1 rfl rfl ?_
        obtain ⟨q16, eq16, h⟩ := bd_e h
        refine g_cV C [(2, y11 + 1)] (cX6_wouldFault_ok l hC T0 F15 eq16) okX6 T0.2.1 (rg_ hC T0.1) km_RX6_101 cv_X6_wouldFault rfl (by decide) rfl rfl (Nat.le_of_ble_eq_true rfl) dX6_doCopied_48 ?_
        refine g_if_eq C 59 dX6_doCopied_51 rfl (fun c17 => ?_) (fun c17 => ?_)
        · replace h := if_t h c17
          refine g_aload_n C (f := 0) dX6_doCopied_59 1 rfl ?_
          refine g_aload C (i := 6) dX6_doCopied_60 0 rfl ?_
          have F18 := fX1_0 hC F12.1 F12.2.1
          refine g_getR C (k := 0) (o := 1) okX1 (by decide) kf_RX6_194 dX6_doCopied_62 hC F12.1 F12.2.1 rfl rfl ?_
          refine g_aload_n C (f := 0) dX6_doCopied_65 1 rfl ?_
          refine g_aload C (i := 6) dX6_doCopied_66 0 rfl ?_
          have F19 := fX1_0 hC F12.1 F12.2.1
          refine g_getR C (k := 0) (o := 1) okX1 (by decide) kf_RX6_194 dX6_doCopied_68 hC F12.1 F12.2.1 rfl rfl ?_
          obtain ⟨q20, eq20, h⟩ := bd_e h
          refine g_cV C [(2, y11 + 1)] (cX6_resultOf_ok l hC T0 F19 eq20) okX6 T0.2.1 (rg_ hC T0.1) km_RX6_108 cv_X6_resultOf rfl (by decide) rfl rfl (Nat.le_of_ble_eq_true rfl) dX6_doCopied_71 ?_
          refine g_aload_n C (f := 0) dX6_doCopied_74 1 rfl ?_
          refine g_aload C (i := 6) dX6_doCopied_75 0 rfl ?_
          have F21 := fX1_0 hC F12.1 F12.2.1
          refine g_getR C (k := 0) (o := 1) okX1 (by decide) kf_RX6_194 dX6_doCopied_77 hC F12.1 F12.2.1 rfl rfl ?_
          refine g_getf C (k := 2) (kd := 0) okX8 (by decide) kf_RX6_112 dX6_doCopied_80 (rg_ hC F21.1) F21.2.1 rfl ?_
          obtain ⟨q22, eq22, h⟩ := bd_e h
          refine g_cV C [(0, q20.2 (y11 + 1) 2)] (cX6_valueOf_ok l hC T0 eq22) okX6 T0.2.1 (rg_ hC T0.1) km_RX6_117 cv_X6_valueOf rfl (by decide) rfl rfl (Nat.le_of_ble_eq_true rfl) dX6_doCopied_83 ?_
          obtain ⟨q23, eq23, h⟩ := bd_e h
          refine g_cV C [(2, y11 + 1), (0, q20.1), (0, q22.1)] (cX6_settle_ok l hC T0 F18 eq23) okX6 T0.2.1 (rg_ hC T0.1) km_RX6_120 cv_X6_settle rfl (by decide) rfl rfl (Nat.le_of_ble_eq_true rfl) dX6_doCopied_86 ?_
          refine g_iload C (i := 4) dX6_doCopied_89 5 rfl ?_
          refine g_aload C (i := 6) dX6_doCopied_91 0 rfl ?_
          refine g_getf C (k := 3) (kd := 0) okX1 (by decide) kf_RX6_219 dX6_doCopied_93 (rg_ hC F12.1) F12.2.1 rfl ?_
          refine g_iadd C dX6_doCopied_96 ?_
          obtain ⟨y24, ey24, h⟩ := lt_e h
          refine g_set C ey24 ?_
          refine g_istore C (i := 4) (ls' := [(4, (0, y24)), (6, (2, y11)), (0, (2, x0)), (1, (2, x1)), (2, (0, x2)), (3, (0, x3)), (5, (0, x5))]) dX6_doCopied_97 (by decide) rfl ?_
          obtain ⟨y25, ey25, h⟩ := lt_e h
          refine g_iincx C (ls' := [(5, (0, y25)), (4, (0, y24)), (6, (2, y11)), (0, (2, x0)), (1, (2, x1)), (2, (0, x2)), (3, (0, x3))]) ey25 dX6_doCopied_99 6 rfl (by decide) (by decide) rfl ?_
          refine g_goto C 18 dX6_doCopied_102 rfl ?_
          refine g_sub [3, 4, 5, 6, 1, 0] rfl rfl ?_
          exact H_18 _ _ _ _ _ _ _ T0 T1 h
        · replace h := if_f h c17
          refine g_aload_n C (f := 0) dX6_doCopied_54 1 rfl ?_
          obtain ⟨q26, eq26, h⟩ := bd_e h
          refine g_cV C [] (cX6_fault_ok l hC T0 eq26) okX6 T0.2.1 (rg_ hC T0.1) km_RX6_105 cv_X6_fault rfl (by decide) rfl rfl (Nat.le_of_ble_eq_true rfl) dX6_doCopied_55 ?_
          cases h
          exact g_vret C dX6_doCopied_58 hr hlk
end
theorem cX6_doCopied_ok (l : Launch) {E : En_} {sz : Int} (hC : Cl_ E.2.2.2.2.2 sz) {x0 x1 x2 : Int} {v : V_} {out : Int × V_} (T0 : (E.2.2.2.2.2 x0 ∧ ty_ x0 = 6 ∧ ln_ x0 = 0)) (T1 : (E.2.2.2.2.2 x1 ∧ ty_ x1 = 10 ∧ ln_ x1 = 0)) (h : fX6_doCopied x0 x1 x2 v = some out) : Met l yX6_doCopied [.code yX6_doCopied cX6_doCopied 7 (none : Option FieldType)] (rm_ 2 44) (Pc_ E sz v [(2, x0), (2, x1), (0, x2)]) (Qc_ E sz 9 out.1 out.2) 0 0 (fun q => E.1 < q) := by
  refine met_G0 RX6 (by decide +kernel) rfl (Nat.le_of_ble_eq_true rfl) ?_
  intro p e s m args below meth c C hr hlk
  rw [fX6_doCopied] at h
  refine g_aload_n C (f := 1) dX6_doCopied_0 1 rfl ?_
  have F1 := fX10_2 hC T1.1 T1.2.1
  refine g_getR C (k := 2) (o := 2) okX10 (by decide) kf_RX6_154 dX6_doCopied_1 hC T1.1 T1.2.1 rfl rfl ?_
  refine g_iload_n C (f := 2) dX6_doCopied_4 2 rfl ?_
  obtain ⟨c2, h⟩ := ck_e h
  have F3 := fE_items (i := x2) hC F1.1 F1.2.1 F1.2.2 c2
  refine g_aald C 26 34 5 2 dX6_doCopied_5 hC F1.1 F1.2.1 F1.2.2 c2 (by decide) oA_items ?_
  refine g_getf C (k := 7) (kd := 0) okX1 (by decide) kf_RX6_187 dX6_doCopied_6 (rg_ hC F3.1) F3.2.1 rfl ?_
  obtain ⟨y4, ey4, h⟩ := lt_e h
  refine g_set C ey4 ?_
  refine g_istore_n C (f := 3) (ls' := [(3, (0, y4)), (0, (2, x0)), (1, (2, x1)), (2, (0, x2))]) dX6_doCopied_9 (by decide) rfl ?_
  refine g_iload_n C (f := 3) dX6_doCopied_10 0 rfl ?_
  refine g_iconst C (n := 1) dX6_doCopied_11 (by decide) ?_
  refine g_iadd C dX6_doCopied_12 ?_
  obtain ⟨y5, ey5, h⟩ := lt_e h
  refine g_set C ey5 ?_
  refine g_istore C (i := 4) (ls' := [(4, (0, y5)), (3, (0, y4)), (0, (2, x0)), (1, (2, x1)), (2, (0, x2))]) dX6_doCopied_13 (by decide) rfl ?_
  refine g_iconst C (n := 0) dX6_doCopied_15 (by decide) ?_
  refine g_istore C (i := 5) (ls' := [(5, (0, 0)), (4, (0, y5)), (3, (0, y4)), (0, (2, x0)), (1, (2, x1)), (2, (0, x2))]) dX6_doCopied_16 (by decide) rfl ?_
  refine g_sub [3, 4, 5, 2, 1, 0] rfl rfl ?_
  exact tX6_doCopied_18 C hr hlk hC _ _ _ _ _ _ _ _ T0 T1 h
theorem dX6_endIfTooLong_0 : decode cX6_endIfTooLong 0 = .ok (.aload_n 0, 1) := by decide +kernel
theorem dX6_endIfTooLong_1 : decode cX6_endIfTooLong 1 = .ok (.getfield 34, 3) := by decide +kernel
theorem dX6_endIfTooLong_4 : decode cX6_endIfTooLong 4 = .ok (.iconst (-1), 1) := by decide +kernel
theorem dX6_endIfTooLong_5 : decode cX6_endIfTooLong 5 = .ok (.if_icmp .eq 8, 3) := by decide +kernel
theorem dX6_endIfTooLong_8 : decode cX6_endIfTooLong 8 = .ok (.aload_n 0, 1) := by decide +kernel
theorem dX6_endIfTooLong_9 : decode cX6_endIfTooLong 9 = .ok (.iconst 2, 1) := by decide +kernel
theorem dX6_endIfTooLong_10 : decode cX6_endIfTooLong 10 = .ok (.putfield 65, 3) := by decide +kernel
theorem dX6_endIfTooLong_13 : decode cX6_endIfTooLong 13 = .ok (.return_, 1) := by decide +kernel
def fX6_endIfTooLong (x0 : Int) (v : V_) : Option (Int × V_) :=
  if (v x0 9) = (-1) then (
    some (0, v))
  else (
    lt_ (up_ v x0 4 2) fun v2 =>
    some (0, v2))
theorem cX6_endIfTooLong_ok (l : Launch) {E : En_} {sz : Int} (hC : Cl_ E.2.2.2.2.2 sz) {x0 : Int} {v : V_} {out : Int × V_} (T0 : (E.2.2.2.2.2 x0 ∧ ty_ x0 = 6 ∧ ln_ x0 = 0)) (h : fX6_endIfTooLong x0 v = some out) : Met l yX6_endIfTooLong [.code yX6_endIfTooLong cX6_endIfTooLong 1 (none : Option FieldType)] (rm_ 0 0) (Pc_ E sz v [(2, x0)]) (Qc_ E sz 9 out.1 out.2) 0 0 (fun q => E.1 < q) := by
  refine met_G0 RX6 (by decide +kernel) rfl (Nat.le_of_ble_eq_true rfl) ?_
  intro p e s m args below meth c C hr hlk
  rw [fX6_endIfTooLong] at h
  refine g_aload_n C (f := 0) dX6_endIfTooLong_0 0 rfl ?_
  refine g_getf C (k := 9) (kd := 0) okX6 (by decide) kf_RX6_34 dX6_endIfTooLong_1 (rg_ hC T0.1) T0.2.1 rfl ?_
  refine g_iconst C (n := (-1)) dX6_endIfTooLong_4 (by decide) ?_
  refine g_icmp_eq C 13 dX6_endIfTooLong_5 rfl (fun c1 => ?_) (fun c1 => ?_)
  · replace h := if_t h c1
    cases h
    exact g_vret C dX6_endIfTooLong_13 hr hlk
  · replace h := if_f h c1
    refine g_aload_n C (f := 0) dX6_endIfTooLong_8 0 rfl ?_
    refine g_iconst C (n := 2) dX6_endIfTooLong_9 (by decide) ?_
    obtain ⟨v2, ev2, h⟩ := lt_e h
    refine g_putf C (k := 4) (kd := 0) okX6 (by decide) kf_RX6_65 dX6_endIfTooLong_10 (rg_ hC T0.1) T0.2.1 rfl rfl nvI (Or.inl rfl) v2 ev2 ?_
    cases h
    exact g_vret C dX6_endIfTooLong_13 hr hlk
theorem dX6_leave_0 : decode cX6_leave 0 = .ok (.aload_n 0, 1) := by decide +kernel
theorem dX6_leave_1 : decode cX6_leave 1 = .ok (.aload_n 1, 1) := by decide +kernel
theorem dX6_leave_2 : decode cX6_leave 2 = .ok (.iload_n 2, 1) := by decide +kernel
theorem dX6_leave_3 : decode cX6_leave 3 = .ok (.iload_n 3, 1) := by decide +kernel
theorem dX6_leave_4 : decode cX6_leave 4 = .ok (.invokevirtual 138, 3) := by decide +kernel
theorem dX6_leave_7 : decode cX6_leave 7 = .ok (.putfield 34, 3) := by decide +kernel
theorem dX6_leave_10 : decode cX6_leave 10 = .ok (.aload_n 0, 1) := by decide +kernel
theorem dX6_leave_11 : decode cX6_leave 11 = .ok (.getfield 34, 3) := by decide +kernel
theorem dX6_leave_14 : decode cX6_leave 14 = .ok (.ifCond .ge 11, 3) := by decide +kernel
theorem dX6_leave_17 : decode cX6_leave 17 = .ok (.aload_n 0, 1) := by decide +kernel
theorem dX6_leave_18 : decode cX6_leave 18 = .ok (.iconst (-1), 1) := by decide +kernel
theorem dX6_leave_19 : decode cX6_leave 19 = .ok (.putfield 34, 3) := by decide +kernel
theorem dX6_leave_22 : decode cX6_leave 22 = .ok (.goto 17, 3) := by decide +kernel
theorem dX6_leave_25 : decode cX6_leave 25 = .ok (.aload_n 0, 1) := by decide +kernel
theorem dX6_leave_26 : decode cX6_leave 26 = .ok (.getfield 21, 3) := by decide +kernel
theorem dX6_leave_29 : decode cX6_leave 29 = .ok (.iload_n 2, 1) := by decide +kernel
theorem dX6_leave_30 : decode cX6_leave 30 = .ok (.iconst 2, 1) := by decide +kernel
theorem dX6_leave_31 : decode cX6_leave 31 = .ok (.imul, 1) := by decide +kernel
theorem dX6_leave_32 : decode cX6_leave 32 = .ok (.iload_n 3, 1) := by decide +kernel
theorem dX6_leave_33 : decode cX6_leave 33 = .ok (.iadd, 1) := by decide +kernel
theorem dX6_leave_34 : decode cX6_leave 34 = .ok (.dup2, 1) := by decide +kernel
theorem dX6_leave_35 : decode cX6_leave 35 = .ok (.iaload, 1) := by decide +kernel
theorem dX6_leave_36 : decode cX6_leave 36 = .ok (.iconst 1, 1) := by decide +kernel
theorem dX6_leave_37 : decode cX6_leave 37 = .ok (.iadd, 1) := by decide +kernel
theorem dX6_leave_38 : decode cX6_leave 38 = .ok (.iastore, 1) := by decide +kernel
theorem dX6_leave_39 : decode cX6_leave 39 = .ok (.return_, 1) := by decide +kernel
def fX6_leave (x0 x1 x2 x3 : Int) (v : V_) : Option (Int × V_) :=
  bd_ (fX5_leadsTo x1 x2 x3 v) fun q1 =>
  lt_ (up_ q1.2 x0 9 q1.1) fun v2 =>
  if 0 ≤ (v2 x0 9) then (
    ck_ (0 ≤ wr_ ((wr_ (x2 * 2)) + x3) ∧ wr_ ((wr_ (x2 * 2)) + x3) < 16) (
    ck_ (0 ≤ wr_ ((wr_ (x2 * 2)) + x3) ∧ wr_ ((wr_ (x2 * 2)) + x3) < 16) (
    lt_ (up_ v2 (x0 + 4) (wr_ ((wr_ (x2 * 2)) + x3)) (wr_ ((v2 (x0 + 4) (wr_ ((wr_ (x2 * 2)) + x3))) + 1))) fun v7 =>
    some (0, v7))))
  else (
    lt_ (up_ v2 x0 9 (-1)) fun v8 =>
    some (0, v8))
theorem cX6_leave_ok (l : Launch) {E : En_} {sz : Int} (hC : Cl_ E.2.2.2.2.2 sz) {x0 x1 x2 x3 : Int} {v : V_} {out : Int × V_} (T0 : (E.2.2.2.2.2 x0 ∧ ty_ x0 = 6 ∧ ln_ x0 = 0)) (T1 : (E.2.2.2.2.2 x1 ∧ ty_ x1 = 5 ∧ ln_ x1 = 0)) (h : fX6_leave x0 x1 x2 x3 v = some out) : Met l yX6_leave [.code yX6_leave cX6_leave 4 (none : Option FieldType)] (rm_ 1 22) (Pc_ E sz v [(2, x0), (2, x1), (0, x2), (0, x3)]) (Qc_ E sz 9 out.1 out.2) 0 0 (fun q => E.1 < q) := by
  refine met_G0 RX6 (by decide +kernel) rfl (Nat.le_of_ble_eq_true rfl) ?_
  intro p e s m args below meth c C hr hlk
  rw [fX6_leave] at h
  refine g_aload_n C (f := 0) dX6_leave_0 0 rfl ?_
  refine g_aload_n C (f := 1) dX6_leave_1 1 rfl ?_
  refine g_iload_n C (f := 2) dX6_leave_2 2 rfl ?_
  refine g_iload_n C (f := 3) dX6_leave_3 3 rfl ?_
  obtain ⟨q1, eq1, h⟩ := bd_e h
  refine g_cV C [(0, x2), (0, x3)] (cX5_leadsTo_ok l hC T1 eq1) okX5 T1.2.1 (rg_ hC T1.1) km_RX6_138 cv_X5_leadsTo rfl (by decide) rfl rfl (Nat.le_of_ble_eq_true rfl) dX6_leave_4 ?_
  obtain ⟨v2, ev2, h⟩ := lt_e h
  refine g_putf C (k := 9) (kd := 0) okX6 (by decide) kf_RX6_34 dX6_leave_7 (rg_ hC T0.1) T0.2.1 rfl rfl nvI (Or.inl rfl) v2 ev2 ?_
  refine g_aload_n C (f := 0) dX6_leave_10 0 rfl ?_
  refine g_getf C (k := 9) (kd := 0) okX6 (by decide) kf_RX6_34 dX6_leave_11 (rg_ hC T0.1) T0.2.1 rfl ?_
  refine g_if_ge C 25 dX6_leave_14 rfl (fun c3 => ?_) (fun c3 => ?_)
  · replace h := if_t h c3
    refine g_aload_n C (f := 0) dX6_leave_25 0 rfl ?_
    have F4 := fX6_3 hC T0.1 T0.2.1
    refine g_getR C (k := 3) (o := 4) okX6 (by decide) kf_RX6_21 dX6_leave_26 hC T0.1 T0.2.1 rfl rfl ?_
    refine g_iload_n C (f := 2) dX6_leave_29 2 rfl ?_
    refine g_iconst C (n := 2) dX6_leave_30 (by decide) ?_
    refine g_imul C dX6_leave_31 ?_
    refine g_iload_n C (f := 3) dX6_leave_32 3 rfl ?_
    refine g_iadd C dX6_leave_33 ?_
    refine g_dup2 C (Nat.ne_of_beq_eq_false rfl) (Nat.ne_of_beq_eq_false rfl) dX6_leave_34 ?_
    obtain ⟨c5, h⟩ := ck_e h
    refine g_iald C 16 dX6_leave_35 (rg_ hC F4.1) F4.2.1 F4.2.2 c5 ?_
    refine g_iconst C (n := 1) dX6_leave_36 (by decide) ?_
    refine g_iadd C dX6_leave_37 ?_
    obtain ⟨c6, h⟩ := ck_e h
    obtain ⟨v7, ev7, h⟩ := lt_e h
    refine g_iast C 16 dX6_leave_38 (rg_ hC F4.1) F4.2.1 F4.2.2 c6 v7 ev7 ?_
    cases h
    exact g_vret C dX6_leave_39 hr hlk
  · replace h := if_f h c3
    refine g_aload_n C (f := 0) dX6_leave_17 0 rfl ?_
    refine g_iconst C (n := (-1)) dX6_leave_18 (by decide) ?_
    obtain ⟨v8, ev8, h⟩ := lt_e h
    refine g_putf C (k := 9) (kd := 0) okX6 (by decide) kf_RX6_34 dX6_leave_19 (rg_ hC T0.1) T0.2.1 rfl rfl nvI (Or.inl rfl) v8 ev8 ?_
    refine g_goto C 39 dX6_leave_22 rfl ?_
    cases h
    exact g_vret C dX6_leave_39 hr hlk
theorem dX6_goAlone_0 : decode cX6_goAlone 0 = .ok (.aload_n 0, 1) := by decide +kernel
theorem dX6_goAlone_1 : decode cX6_goAlone 1 = .ok (.getfield 34, 3) := by decide +kernel
theorem dX6_goAlone_4 : decode cX6_goAlone 4 = .ok (.istore_n 3, 1) := by decide +kernel
theorem dX6_goAlone_5 : decode cX6_goAlone 5 = .ok (.aload_n 0, 1) := by decide +kernel
theorem dX6_goAlone_6 : decode cX6_goAlone 6 = .ok (.dup, 1) := by decide +kernel
theorem dX6_goAlone_7 : decode cX6_goAlone 7 = .ok (.getfield 44, 3) := by decide +kernel
theorem dX6_goAlone_10 : decode cX6_goAlone 10 = .ok (.iconst 1, 1) := by decide +kernel
theorem dX6_goAlone_11 : decode cX6_goAlone 11 = .ok (.iadd, 1) := by decide +kernel
theorem dX6_goAlone_12 : decode cX6_goAlone 12 = .ok (.putfield 44, 3) := by decide +kernel
theorem dX6_goAlone_15 : decode cX6_goAlone 15 = .ok (.aload_n 0, 1) := by decide +kernel
theorem dX6_goAlone_16 : decode cX6_goAlone 16 = .ok (.getfield 18, 3) := by decide +kernel
theorem dX6_goAlone_19 : decode cX6_goAlone 19 = .ok (.iload_n 3, 1) := by decide +kernel
theorem dX6_goAlone_20 : decode cX6_goAlone 20 = .ok (.dup2, 1) := by decide +kernel
theorem dX6_goAlone_21 : decode cX6_goAlone 21 = .ok (.iaload, 1) := by decide +kernel
theorem dX6_goAlone_22 : decode cX6_goAlone 22 = .ok (.iconst 1, 1) := by decide +kernel
theorem dX6_goAlone_23 : decode cX6_goAlone 23 = .ok (.iadd, 1) := by decide +kernel
theorem dX6_goAlone_24 : decode cX6_goAlone 24 = .ok (.iastore, 1) := by decide +kernel
theorem dX6_goAlone_25 : decode cX6_goAlone 25 = .ok (.iconst 0, 1) := by decide +kernel
theorem dX6_goAlone_26 : decode cX6_goAlone 26 = .ok (.istore 4, 2) := by decide +kernel
theorem dX6_goAlone_28 : decode cX6_goAlone 28 = .ok (.iload 4, 2) := by decide +kernel
theorem dX6_goAlone_30 : decode cX6_goAlone 30 = .ok (.aload_n 1, 1) := by decide +kernel
theorem dX6_goAlone_31 : decode cX6_goAlone 31 = .ok (.getfield 94, 3) := by decide +kernel
theorem dX6_goAlone_34 : decode cX6_goAlone 34 = .ok (.iload_n 3, 1) := by decide +kernel
theorem dX6_goAlone_35 : decode cX6_goAlone 35 = .ok (.iaload, 1) := by decide +kernel
theorem dX6_goAlone_36 : decode cX6_goAlone 36 = .ok (.if_icmp .ge 76, 3) := by decide +kernel
theorem dX6_goAlone_39 : decode cX6_goAlone 39 = .ok (.aload_n 1, 1) := by decide +kernel
theorem dX6_goAlone_40 : decode cX6_goAlone 40 = .ok (.getfield 97, 3) := by decide +kernel
theorem dX6_goAlone_43 : decode cX6_goAlone 43 = .ok (.iload_n 3, 1) := by decide +kernel
theorem dX6_goAlone_44 : decode cX6_goAlone 44 = .ok (.bipush 6, 2) := by decide +kernel
theorem dX6_goAlone_46 : decode cX6_goAlone 46 = .ok (.imul, 1) := by decide +kernel
theorem dX6_goAlone_47 : decode cX6_goAlone 47 = .ok (.iload 4, 2) := by decide +kernel
theorem dX6_goAlone_49 : decode cX6_goAlone 49 = .ok (.iadd, 1) := by decide +kernel
theorem dX6_goAlone_50 : decode cX6_goAlone 50 = .ok (.aaload, 1) := by decide +kernel
theorem dX6_goAlone_51 : decode cX6_goAlone 51 = .ok (.astore 5, 2) := by decide +kernel
theorem dX6_goAlone_53 : decode cX6_goAlone 53 = .ok (.aload_n 0, 1) := by decide +kernel
theorem dX6_goAlone_54 : decode cX6_goAlone 54 = .ok (.aload 5, 2) := by decide +kernel
theorem dX6_goAlone_56 : decode cX6_goAlone 56 = .ok (.invokevirtual 101, 3) := by decide +kernel
theorem dX6_goAlone_59 : decode cX6_goAlone 59 = .ok (.ifCond .eq 8, 3) := by decide +kernel
theorem dX6_goAlone_62 : decode cX6_goAlone 62 = .ok (.aload_n 0, 1) := by decide +kernel
theorem dX6_goAlone_63 : decode cX6_goAlone 63 = .ok (.invokevirtual 105, 3) := by decide +kernel
theorem dX6_goAlone_66 : decode cX6_goAlone 66 = .ok (.return_, 1) := by decide +kernel
theorem dX6_goAlone_67 : decode cX6_goAlone 67 = .ok (.aload_n 0, 1) := by decide +kernel
theorem dX6_goAlone_68 : decode cX6_goAlone 68 = .ok (.aload 5, 2) := by decide +kernel
theorem dX6_goAlone_70 : decode cX6_goAlone 70 = .ok (.aload_n 0, 1) := by decide +kernel
theorem dX6_goAlone_71 : decode cX6_goAlone 71 = .ok (.aload 5, 2) := by decide +kernel
theorem dX6_goAlone_73 : decode cX6_goAlone 73 = .ok (.invokevirtual 108, 3) := by decide +kernel
theorem dX6_goAlone_76 : decode cX6_goAlone 76 = .ok (.aload_n 0, 1) := by decide +kernel
theorem dX6_goAlone_77 : decode cX6_goAlone 77 = .ok (.aload 5, 2) := by decide +kernel
theorem dX6_goAlone_79 : decode cX6_goAlone 79 = .ok (.getfield 112, 3) := by decide +kernel
theorem dX6_goAlone_82 : decode cX6_goAlone 82 = .ok (.invokevirtual 117, 3) := by decide +kernel
theorem dX6_goAlone_85 : decode cX6_goAlone 85 = .ok (.invokevirtual 120, 3) := by decide +kernel
theorem dX6_goAlone_88 : decode cX6_goAlone 88 = .ok (.aload_n 0, 1) := by decide +kernel
theorem dX6_goAlone_89 : decode cX6_goAlone 89 = .ok (.dup, 1) := by decide +kernel
theorem dX6_goAlone_90 : decode cX6_goAlone 90 = .ok (.getfield 62, 3) := by decide +kernel
theorem dX6_goAlone_93 : decode cX6_goAlone 93 = .ok (.aload_n 2, 1) := by decide +kernel
theorem dX6_goAlone_94 : decode cX6_goAlone 94 = .ok (.aload 5, 2) := by decide +kernel
theorem dX6_goAlone_96 : decode cX6_goAlone 96 = .ok (.invokevirtual 124, 3) := by decide +kernel
theorem dX6_goAlone_99 : decode cX6_goAlone 99 = .ok (.invokevirtual 128, 3) := by decide +kernel
theorem dX6_goAlone_102 : decode cX6_goAlone 102 = .ok (.iadd, 1) := by decide +kernel
theorem dX6_goAlone_103 : decode cX6_goAlone 103 = .ok (.putfield 62, 3) := by decide +kernel
theorem dX6_goAlone_106 : decode cX6_goAlone 106 = .ok (.iinc 4 1, 3) := by decide +kernel
theorem dX6_goAlone_109 : decode cX6_goAlone 109 = .ok (.goto (-81), 3) := by decide +kernel
theorem dX6_goAlone_112 : decode cX6_goAlone 112 = .ok (.aload_n 0, 1) := by decide +kernel
theorem dX6_goAlone_113 : decode cX6_goAlone 113 = .ok (.dup, 1) := by decide +kernel
theorem dX6_goAlone_114 : decode cX6_goAlone 114 = .ok (.getfield 62, 3) := by decide +kernel
theorem dX6_goAlone_117 : decode cX6_goAlone 117 = .ok (.aload_n 2, 1) := by decide +kernel
theorem dX6_goAlone_118 : decode cX6_goAlone 118 = .ok (.iconst 3, 1) := by decide +kernel
theorem dX6_goAlone_119 : decode cX6_goAlone 119 = .ok (.invokevirtual 128, 3) := by decide +kernel
theorem dX6_goAlone_122 : decode cX6_goAlone 122 = .ok (.iadd, 1) := by decide +kernel
theorem dX6_goAlone_123 : decode cX6_goAlone 123 = .ok (.putfield 62, 3) := by decide +kernel
theorem dX6_goAlone_126 : decode cX6_goAlone 126 = .ok (.aload_n 0, 1) := by decide +kernel
theorem dX6_goAlone_127 : decode cX6_goAlone 127 = .ok (.aload_n 1, 1) := by decide +kernel
theorem dX6_goAlone_128 : decode cX6_goAlone 128 = .ok (.iload_n 3, 1) := by decide +kernel
theorem dX6_goAlone_129 : decode cX6_goAlone 129 = .ok (.aload_n 0, 1) := by decide +kernel
theorem dX6_goAlone_130 : decode cX6_goAlone 130 = .ok (.aload_n 1, 1) := by decide +kernel
theorem dX6_goAlone_131 : decode cX6_goAlone 131 = .ok (.getfield 131, 3) := by decide +kernel
theorem dX6_goAlone_134 : decode cX6_goAlone 134 = .ok (.iload_n 3, 1) := by decide +kernel
theorem dX6_goAlone_135 : decode cX6_goAlone 135 = .ok (.aaload, 1) := by decide +kernel
theorem dX6_goAlone_136 : decode cX6_goAlone 136 = .ok (.invokevirtual 108, 3) := by decide +kernel
theorem dX6_goAlone_139 : decode cX6_goAlone 139 = .ok (.invokevirtual 134, 3) := by decide +kernel
theorem dX6_goAlone_142 : decode cX6_goAlone 142 = .ok (.return_, 1) := by decide +kernel
def fX6_goAlone_28 : Nat → Int → Int → Int → Int → Int → V_ → Option (Int × V_)
  | 0, _, _, _, _, _, _ => none
  | n + 1, x0, x1, x2, x3, x4, v =>
    ck_ (0 ≤ x3 ∧ x3 < 8) (
    if (v (x1 + 1) x3) ≤ x4 then (
      bd_ (fX7_latencyOf x2 3 v) fun q10 =>
      lt_ (up_ q10.2 x0 5 (wr_ ((v x0 5) + q10.1))) fun v11 =>
      ck_ (0 ≤ x3 ∧ x3 < 8) (
      bd_ (fX6_resultOf x0 ((x1 + 3) + (53 + 1 * x3)) v11) fun q15 =>
      bd_ (fX6_leave x0 x1 x3 q15.1 q15.2) fun q16 =>
      some (0, q16.2)))
    else (
      ck_ (0 ≤ wr_ ((wr_ (x3 * 6)) + x4) ∧ wr_ ((wr_ (x3 * 6)) + x4) < 48) (
      lt_ ((x1 + 2) + (6 + 1 * (wr_ ((wr_ (x3 * 6)) + x4)))) fun y20 =>
      bd_ (fX6_wouldFault x0 y20 v) fun q22 =>
      if q22.1 = 0 then (
        bd_ (fX6_resultOf x0 y20 q22.2) fun q24 =>
        bd_ (fX6_valueOf x0 (q24.2 y20 2) q24.2) fun q25 =>
        bd_ (fX6_settle x0 y20 q24.1 q25.1 q25.2) fun q26 =>
        bd_ (fX8_kindOf y20 q26.2) fun q27 =>
        bd_ (fX7_latencyOf x2 q27.1 q27.2) fun q28 =>
        lt_ (up_ q28.2 x0 5 (wr_ ((q26.2 x0 5) + q28.1))) fun v29 =>
        lt_ (wr_ (x4 + 1)) fun y30 =>
        (fX6_goAlone_28 n) x0 x1 x2 x3 y30 v29)
      else (
        bd_ (fX6_fault x0 q22.2) fun q31 =>
        some (0, q31.2)))))
def fX6_goAlone (x0 x1 x2 : Int) (v : V_) : Option (Int × V_) :=
  lt_ (v x0 9) fun y1 =>
  lt_ (up_ v x0 6 (wr_ ((v x0 6) + 1))) fun v2 =>
  ck_ (0 ≤ y1 ∧ y1 < 8) (
  ck_ (0 ≤ y1 ∧ y1 < 8) (
  lt_ (up_ v2 (x0 + 3) y1 (wr_ ((v2 (x0 + 3) y1) + 1))) fun v6 =>
  fX6_goAlone_28 fu_ x0 x1 x2 y1 0 v6))
section
variable {E : En_} {p : Program} {l : Launch} {e : Env} {s : State} {m : MethodId} {args : Array Value} {below : List Frame} {meth : Method} {c : Code} {sz : Int}
theorem tX6_goAlone_28 (C : MC_ E p s m c cX6_goAlone 6 RX6) (hr : meth.sig.returnType = (none : Option FieldType)) (hlk : meth.locks = false) (hC : Cl_ E.2.2.2.2.2 sz) {out : Int × V_} : ∀ (n : Nat) (x0 x1 x2 x3 x4 : Int) (v : V_), (E.2.2.2.2.2 x0 ∧ ty_ x0 = 6 ∧ ln_ x0 = 0) → (E.2.2.2.2.2 x1 ∧ ty_ x1 = 5 ∧ ln_ x1 = 0) → (E.2.2.2.2.2 x2 ∧ ty_ x2 = 7 ∧ ln_ x2 = 0) → fX6_goAlone_28 n x0 x1 x2 x3 x4 v = some out → G_ E p l e (rm_ 2 45) s m args below meth c 6 sz (Q_ E below args s sz sz 9 out.1 out.2) 28 [(0, (2, x0)), (1, (2, x1)), (2, (2, x2)), (3, (0, x3)), (4, (0, x4))] [] v sz := by
  intro n
  induction n with
  | zero =>
    intro x0 x1 x2 x3 x4 v T0 T1 T2 h
    cases h
  | succ n H_28 =>
    intro x0 x1 x2 x3 x4 v T0 T1 T2 h
    rw [fX6_goAlone_28] at h
    refine g_iload C (i := 4) dX6_goAlone_28 4 rfl ?_
    refine g_aload_n C (f := 1) dX6_goAlone_30 1 rfl ?_
    have F7 := fX5_1 hC T1.1 T1.2.1
    refine g_getR C (k := 1) (o := 1) okX5 (by decide) kf_RX6_94 dX6_goAlone_31 hC T1.1 T1.2.1 rfl rfl ?_
    refine g_iload_n C (f := 3) dX6_goAlone_34 3 rfl ?_
    obtain ⟨c8, h⟩ := ck_e h
    refine g_iald C 8 dX6_goAlone_35 (rg_ hC F7.1) F7.2.1 F7.2.2 c8 ?_
    refine g_icmp_ge C 112 dX6_goAlone_36 rfl (fun c9 => ?_) (fun c9 => ?_)
    · replace h := if_t h c9
      refine g_aload_n C (f := 0) dX6_goAlone_112 0 rfl ?_
      refine g_dup C (Nat.ne_of_beq_eq_false rfl) dX6_goAlone_113 ?_
      refine g_getf C (k := 5) (kd := 0) okX6 (by decide) kf_RX6_62 dX6_goAlone_114 (rg_ hC T0.1) T0.2.1 rfl ?_
      refine g_aload_n C (f := 2) dX6_goAlone_117 2 rfl ?_
      refine g_iconst C (n := 3) dX6_goAlone_118 (by decide) ?_
      obtain ⟨q10, eq10, h⟩ := bd_e h
      refine g_cV C [(0, 3)] (cX7_latencyOf_ok l hC T2 eq10) okX7 T2.2.1 (rg_ hC T2.1) km_RX6_128 cv_X7_latencyOf rfl (by decide) rfl rfl (Nat.le_of_ble_eq_true rfl) dX6_goAlone_119 ?_
      refine g_iadd C dX6_goAlone_122 ?_
      obtain ⟨v11, ev11, h⟩ := lt_e h
      refine g_putf C (k := 5) (kd := 0) okX6 (by decide) kf_RX6_62 dX6_goAlone_123 (rg_ hC T0.1) T0.2.1 rfl rfl nvI (Or.inl rfl) v11 ev11 ?_
      refine g_aload_n C (f := 0) dX6_goAlone_126 0 rfl ?_
      refine g_aload_n C (f := 1) dX6_goAlone_127 1 rfl ?_
      refine g_iload_n C (f := 3) dX6_goAlone_128 3 rfl ?_
      refine g_aload_n C (f := 0) dX6_goAlone_129 0 rfl ?_
      refine g_aload_n C (f := 1) dX6_goAlone_130 1 rfl ?_
      have F12 := fX5_3 hC T1.1 T1.2.1
      refine g_getR C (k := 3) (o := 3) okX5 (by decide) kf_RX6_131 dX6_goAlone_131 hC T1.1 T1.2.1 rfl rfl ?_
      refine g_iload_n C (f := 3) dX6_goAlone_134 3 rfl ?_
      obtain ⟨c13, h⟩ := ck_e h
      have F14 := fE_ends (i := x3) hC F12.1 F12.2.1 F12.2.2 c13
      refine g_aald C 25 8 53 1 dX6_goAlone_135 hC F12.1 F12.2.1 F12.2.2 c13 (by decide) oA_ends ?_
      obtain ⟨q15, eq15, h⟩ := bd_e h
      refine g_cV C [(2, (x1 + 3) + (53 + 1 * x3))] (cX6_resultOf_ok l hC T0 F14 eq15) okX6 T0.2.1 (rg_ hC T0.1) km_RX6_108 cv_X6_resultOf rfl (by decide) rfl rfl (Nat.le_of_ble_eq_true rfl) dX6_goAlone_136 ?_
      obtain ⟨q16, eq16, h⟩ := bd_e h
      refine g_cV C [(2, x1), (0, x3), (0, q15.1)] (cX6_leave_ok l hC T0 T1 eq16) okX6 T0.2.1 (rg_ hC T0.1) km_RX6_134 cv_X6_leave rfl (by decide) rfl rfl (Nat.le_of_ble_eq_true rfl) dX6_goAlone_139 ?_
      cases h
      exact g_vret C dX6_goAlone_142 hr hlk
    · replace h := if_f h c9
      refine g_aload_n C (f := 1) dX6_goAlone_39 1 rfl ?_
      have F17 := fX5_2 hC T1.1 T1.2.1
      refine g_getR C (k := 2) (o := 2) okX5 (by decide) kf_RX6_97 dX6_goAlone_40 hC T1.1 T1.2.1 rfl rfl ?_
      refine g_iload_n C (f := 3) dX6_goAlone_43 3 rfl ?_
      refine g_bipush C (n := 6) dX6_goAlone_44 (by decide) ?_
      refine g_imul C dX6_goAlone_46 ?_
      refine g_iload C (i := 4) dX6_goAlone_47 4 rfl ?_
      refine g_iadd C dX6_goAlone_49 ?_
      obtain ⟨c18, h⟩ := ck_e h
      have F19 := fE_lines (i := wr_ ((wr_ (x3 * 6)) + x4)) hC F17.1 F17.2.1 F17.2.2 c18
      refine g_aald C 25 48 6 1 dX6_goAlone_50 hC F17.1 F17.2.1 F17.2.2 c18 (by decide) oA_lines ?_
      obtain ⟨y20, ey20, h⟩ := lt_e h
      refine g_set C ey20 ?_
      have F21 : (E.2.2.2.2.2 y20 ∧ ty_ y20 = 8 ∧ ln_ y20 = 0) := by rw [ey20]; exact F19
      refine g_astore C (i := 5) (ls' := [(5, (2, y20)), (0, (2, x0)), (1, (2, x1)), (2, (2, x2)), (3, (0, x3)), (4, (0, x4))]) dX6_goAlone_51 (by decide) rfl ?_
      refine g_aload_n C (f := 0) dX6_goAlone_53 1 rfl ?_
      refine g_aload C (i := 5) dX6_goAlone_54 0 rfl ?_
      obtain ⟨q22, eq22, h⟩ := bd_e h
      refine g_cV C [(2, y20)] (cX6_wouldFault_ok l hC T0 F21 eq22) okX6 T0.2.1 (rg_ hC T0.1) km_RX6_101 cv_X6_wouldFault rfl (by decide) rfl rfl (Nat.le_of_ble_eq_true rfl) dX6_goAlone_56 ?_
      refine g_if_eq C 67 dX6_goAlone_59 rfl (fun c23 => ?_) (fun c23 => ?_)
      · replace h := if_t h c23
        refine g_aload_n C (f := 0) dX6_goAlone_67 1 rfl ?_
        refine g_aload C (i := 5) dX6_goAlone_68 0 rfl ?_
        refine g_aload_n C (f := 0) dX6_goAlone_70 1 rfl ?_
        refine g_aload C (i := 5) dX6_goAlone_71 0 rfl ?_
        obtain ⟨q24, eq24, h⟩ := bd_e h
        refine g_cV C [(2, y20)] (cX6_resultOf_ok l hC T0 F21 eq24) okX6 T0.2.1 (rg_ hC T0.1) km_RX6_108 cv_X6_resultOf rfl (by decide) rfl rfl (Nat.le_of_ble_eq_true rfl) dX6_goAlone_73 ?_
        refine g_aload_n C (f := 0) dX6_goAlone_76 1 rfl ?_
        refine g_aload C (i := 5) dX6_goAlone_77 0 rfl ?_
        refine g_getf C (k := 2) (kd := 0) okX8 (by decide) kf_RX6_112 dX6_goAlone_79 (rg_ hC F21.1) F21.2.1 rfl ?_
        obtain ⟨q25, eq25, h⟩ := bd_e h
        refine g_cV C [(0, q24.2 y20 2)] (cX6_valueOf_ok l hC T0 eq25) okX6 T0.2.1 (rg_ hC T0.1) km_RX6_117 cv_X6_valueOf rfl (by decide) rfl rfl (Nat.le_of_ble_eq_true rfl) dX6_goAlone_82 ?_
        obtain ⟨q26, eq26, h⟩ := bd_e h
        refine g_cV C [(2, y20), (0, q24.1), (0, q25.1)] (cX6_settle_ok l hC T0 F21 eq26) okX6 T0.2.1 (rg_ hC T0.1) km_RX6_120 cv_X6_settle rfl (by decide) rfl rfl (Nat.le_of_ble_eq_true rfl) dX6_goAlone_85 ?_
        refine g_aload_n C (f := 0) dX6_goAlone_88 1 rfl ?_
        refine g_dup C (Nat.ne_of_beq_eq_false rfl) dX6_goAlone_89 ?_
        refine g_getf C (k := 5) (kd := 0) okX6 (by decide) kf_RX6_62 dX6_goAlone_90 (rg_ hC T0.1) T0.2.1 rfl ?_
        refine g_aload_n C (f := 2) dX6_goAlone_93 3 rfl ?_
        refine g_aload C (i := 5) dX6_goAlone_94 0 rfl ?_
        obtain ⟨q27, eq27, h⟩ := bd_e h
        refine g_cV C [] (cX8_kindOf_ok l hC F21 eq27) okX8 F21.2.1 (rg_ hC F21.1) km_RX6_124 cv_X8_kindOf rfl (by decide) rfl rfl (Nat.le_of_ble_eq_true rfl) dX6_goAlone_96 ?_
        obtain ⟨q28, eq28, h⟩ := bd_e h
        refine g_cV C [(0, q27.1)] (cX7_latencyOf_ok l hC T2 eq28) okX7 T2.2.1 (rg_ hC T2.1) km_RX6_128 cv_X7_latencyOf rfl (by decide) rfl rfl (Nat.le_of_ble_eq_true rfl) dX6_goAlone_99 ?_
        refine g_iadd C dX6_goAlone_102 ?_
        obtain ⟨v29, ev29, h⟩ := lt_e h
        refine g_putf C (k := 5) (kd := 0) okX6 (by decide) kf_RX6_62 dX6_goAlone_103 (rg_ hC T0.1) T0.2.1 rfl rfl nvI (Or.inl rfl) v29 ev29 ?_
        obtain ⟨y30, ey30, h⟩ := lt_e h
        refine g_iincx C (ls' := [(4, (0, y30)), (5, (2, y20)), (0, (2, x0)), (1, (2, x1)), (2, (2, x2)), (3, (0, x3))]) ey30 dX6_goAlone_106 5 rfl (by decide) (by decide) rfl ?_
        refine g_goto C 28 dX6_goAlone_109 rfl ?_
        refine g_sub [2, 3, 4, 5, 0] rfl rfl ?_
        exact H_28 _ _ _ _ _ _ T0 T1 T2 h
      · replace h := if_f h c23
        refine g_aload_n C (f := 0) dX6_goAlone_62 1 rfl ?_
        obtain ⟨q31, eq31, h⟩ := bd_e h
        refine g_cV C [] (cX6_fault_ok l hC T0 eq31) okX6 T0.2.1 (rg_ hC T0.1) km_RX6_105 cv_X6_fault rfl (by decide) rfl rfl (Nat.le_of_ble_eq_true rfl) dX6_goAlone_63 ?_
        cases h
        exact g_vret C dX6_goAlone_66 hr hlk
end
theorem cX6_goAlone_ok (l : Launch) {E : En_} {sz : Int} (hC : Cl_ E.2.2.2.2.2 sz) {x0 x1 x2 : Int} {v : V_} {out : Int × V_} (T0 : (E.2.2.2.2.2 x0 ∧ ty_ x0 = 6 ∧ ln_ x0 = 0)) (T1 : (E.2.2.2.2.2 x1 ∧ ty_ x1 = 5 ∧ ln_ x1 = 0)) (T2 : (E.2.2.2.2.2 x2 ∧ ty_ x2 = 7 ∧ ln_ x2 = 0)) (h : fX6_goAlone x0 x1 x2 v = some out) : Met l yX6_goAlone [.code yX6_goAlone cX6_goAlone 6 (none : Option FieldType)] (rm_ 2 45) (Pc_ E sz v [(2, x0), (2, x1), (2, x2)]) (Qc_ E sz 9 out.1 out.2) 0 0 (fun q => E.1 < q) := by
  refine met_G0 RX6 (by decide +kernel) rfl (Nat.le_of_ble_eq_true rfl) ?_
  intro p e s m args below meth c C hr hlk
  rw [fX6_goAlone] at h
  refine g_aload_n C (f := 0) dX6_goAlone_0 0 rfl ?_
  refine g_getf C (k := 9) (kd := 0) okX6 (by decide) kf_RX6_34 dX6_goAlone_1 (rg_ hC T0.1) T0.2.1 rfl ?_
  obtain ⟨y1, ey1, h⟩ := lt_e h
  refine g_set C ey1 ?_
  refine g_istore_n C (f := 3) (ls' := [(3, (0, y1)), (0, (2, x0)), (1, (2, x1)), (2, (2, x2))]) dX6_goAlone_4 (by decide) rfl ?_
  refine g_aload_n C (f := 0) dX6_goAlone_5 1 rfl ?_
  refine g_dup C (Nat.ne_of_beq_eq_false rfl) dX6_goAlone_6 ?_
  refine g_getf C (k := 6) (kd := 0) okX6 (by decide) kf_RX6_44 dX6_goAlone_7 (rg_ hC T0.1) T0.2.1 rfl ?_
  refine g_iconst C (n := 1) dX6_goAlone_10 (by decide) ?_
  refine g_iadd C dX6_goAlone_11 ?_
  obtain ⟨v2, ev2, h⟩ := lt_e h
  refine g_putf C (k := 6) (kd := 0) okX6 (by decide) kf_RX6_44 dX6_goAlone_12 (rg_ hC T0.1) T0.2.1 rfl rfl nvI (Or.inl rfl) v2 ev2 ?_
  refine g_aload_n C (f := 0) dX6_goAlone_15 1 rfl ?_
  have F3 := fX6_2 hC T0.1 T0.2.1
  refine g_getR C (k := 2) (o := 3) okX6 (by decide) kf_RX6_18 dX6_goAlone_16 hC T0.1 T0.2.1 rfl rfl ?_
  refine g_iload_n C (f := 3) dX6_goAlone_19 0 rfl ?_
  refine g_dup2 C (Nat.ne_of_beq_eq_false rfl) (Nat.ne_of_beq_eq_false rfl) dX6_goAlone_20 ?_
  obtain ⟨c4, h⟩ := ck_e h
  refine g_iald C 8 dX6_goAlone_21 (rg_ hC F3.1) F3.2.1 F3.2.2 c4 ?_
  refine g_iconst C (n := 1) dX6_goAlone_22 (by decide) ?_
  refine g_iadd C dX6_goAlone_23 ?_
  obtain ⟨c5, h⟩ := ck_e h
  obtain ⟨v6, ev6, h⟩ := lt_e h
  refine g_iast C 8 dX6_goAlone_24 (rg_ hC F3.1) F3.2.1 F3.2.2 c5 v6 ev6 ?_
  refine g_iconst C (n := 0) dX6_goAlone_25 (by decide) ?_
  refine g_istore C (i := 4) (ls' := [(4, (0, 0)), (3, (0, y1)), (0, (2, x0)), (1, (2, x1)), (2, (2, x2))]) dX6_goAlone_26 (by decide) rfl ?_
  refine g_sub [2, 3, 4, 1, 0] rfl rfl ?_
  exact tX6_goAlone_28 C hr hlk hC _ _ _ _ _ _ _ T0 T1 T2 h
theorem dX6_readAll_0 : decode cX6_readAll 0 = .ok (.iload_n 2, 1) := by decide +kernel
theorem dX6_readAll_1 : decode cX6_readAll 1 = .ok (.istore 4, 2) := by decide +kernel
theorem dX6_readAll_3 : decode cX6_readAll 3 = .ok (.iload 4, 2) := by decide +kernel
theorem dX6_readAll_5 : decode cX6_readAll 5 = .ok (.iload_n 3, 1) := by decide +kernel
theorem dX6_readAll_6 : decode cX6_readAll 6 = .ok (.if_icmp .ge 101, 3) := by decide +kernel
theorem dX6_readAll_9 : decode cX6_readAll 9 = .ok (.aload_n 1, 1) := by decide +kernel
theorem dX6_readAll_10 : decode cX6_readAll 10 = .ok (.getfield 154, 3) := by decide +kernel
theorem dX6_readAll_13 : decode cX6_readAll 13 = .ok (.aload_n 1, 1) := by decide +kernel
theorem dX6_readAll_14 : decode cX6_readAll 14 = .ok (.getfield 184, 3) := by decide +kernel
theorem dX6_readAll_17 : decode cX6_readAll 17 = .ok (.iload 4, 2) := by decide +kernel
theorem dX6_readAll_19 : decode cX6_readAll 19 = .ok (.iaload, 1) := by decide +kernel
theorem dX6_readAll_20 : decode cX6_readAll 20 = .ok (.aaload, 1) := by decide +kernel
theorem dX6_readAll_21 : decode cX6_readAll 21 = .ok (.astore 5, 2) := by decide +kernel
theorem dX6_readAll_23 : decode cX6_readAll 23 = .ok (.aload_n 0, 1) := by decide +kernel
theorem dX6_readAll_24 : decode cX6_readAll 24 = .ok (.getfield 24, 3) := by decide +kernel
theorem dX6_readAll_27 : decode cX6_readAll 27 = .ok (.iload 4, 2) := by decide +kernel
theorem dX6_readAll_29 : decode cX6_readAll 29 = .ok (.aload_n 0, 1) := by decide +kernel
theorem dX6_readAll_30 : decode cX6_readAll 30 = .ok (.aload 5, 2) := by decide +kernel
theorem dX6_readAll_32 : decode cX6_readAll 32 = .ok (.getfield 194, 3) := by decide +kernel
theorem dX6_readAll_35 : decode cX6_readAll 35 = .ok (.invokevirtual 108, 3) := by decide +kernel
theorem dX6_readAll_38 : decode cX6_readAll 38 = .ok (.iastore, 1) := by decide +kernel
theorem dX6_readAll_39 : decode cX6_readAll 39 = .ok (.aload_n 0, 1) := by decide +kernel
theorem dX6_readAll_40 : decode cX6_readAll 40 = .ok (.getfield 27, 3) := by decide +kernel
theorem dX6_readAll_43 : decode cX6_readAll 43 = .ok (.iload 4, 2) := by decide +kernel
theorem dX6_readAll_45 : decode cX6_readAll 45 = .ok (.aload_n 0, 1) := by decide +kernel
theorem dX6_readAll_46 : decode cX6_readAll 46 = .ok (.aload 5, 2) := by decide +kernel
theorem dX6_readAll_48 : decode cX6_readAll 48 = .ok (.getfield 194, 3) := by decide +kernel
theorem dX6_readAll_51 : decode cX6_readAll 51 = .ok (.getfield 112, 3) := by decide +kernel
theorem dX6_readAll_54 : decode cX6_readAll 54 = .ok (.invokevirtual 117, 3) := by decide +kernel
theorem dX6_readAll_57 : decode cX6_readAll 57 = .ok (.iastore, 1) := by decide +kernel
theorem dX6_readAll_58 : decode cX6_readAll 58 = .ok (.aload_n 0, 1) := by decide +kernel
theorem dX6_readAll_59 : decode cX6_readAll 59 = .ok (.aload 5, 2) := by decide +kernel
theorem dX6_readAll_61 : decode cX6_readAll 61 = .ok (.getfield 194, 3) := by decide +kernel
theorem dX6_readAll_64 : decode cX6_readAll 64 = .ok (.invokevirtual 101, 3) := by decide +kernel
theorem dX6_readAll_67 : decode cX6_readAll 67 = .ok (.ifCond .eq 34, 3) := by decide +kernel
theorem dX6_readAll_70 : decode cX6_readAll 70 = .ok (.aload 5, 2) := by decide +kernel
theorem dX6_readAll_72 : decode cX6_readAll 72 = .ok (.getfield 202, 3) := by decide +kernel
theorem dX6_readAll_75 : decode cX6_readAll 75 = .ok (.ifCond .eq 22, 3) := by decide +kernel
theorem dX6_readAll_78 : decode cX6_readAll 78 = .ok (.aload_n 0, 1) := by decide +kernel
theorem dX6_readAll_79 : decode cX6_readAll 79 = .ok (.dup, 1) := by decide +kernel
theorem dX6_readAll_80 : decode cX6_readAll 80 = .ok (.getfield 142, 3) := by decide +kernel
theorem dX6_readAll_83 : decode cX6_readAll 83 = .ok (.lconst 1, 1) := by decide +kernel
theorem dX6_readAll_84 : decode cX6_readAll 84 = .ok (.aload 5, 2) := by decide +kernel
theorem dX6_readAll_86 : decode cX6_readAll 86 = .ok (.getfield 206, 3) := by decide +kernel
theorem dX6_readAll_89 : decode cX6_readAll 89 = .ok (.lshl, 1) := by decide +kernel
theorem dX6_readAll_90 : decode cX6_readAll 90 = .ok (.lor, 1) := by decide +kernel
theorem dX6_readAll_91 : decode cX6_readAll 91 = .ok (.putfield 142, 3) := by decide +kernel
theorem dX6_readAll_94 : decode cX6_readAll 94 = .ok (.goto 7, 3) := by decide +kernel
theorem dX6_readAll_97 : decode cX6_readAll 97 = .ok (.aload_n 0, 1) := by decide +kernel
theorem dX6_readAll_98 : decode cX6_readAll 98 = .ok (.invokevirtual 105, 3) := by decide +kernel
theorem dX6_readAll_101 : decode cX6_readAll 101 = .ok (.iinc 4 1, 3) := by decide +kernel
theorem dX6_readAll_104 : decode cX6_readAll 104 = .ok (.goto (-101), 3) := by decide +kernel
theorem dX6_readAll_107 : decode cX6_readAll 107 = .ok (.return_, 1) := by decide +kernel
def fX6_readAll_3 : Nat → Int → Int → Int → Int → V_ → Option (Int × V_)
  | 0, _, _, _, _, _ => none
  | n + 1, x0, x1, x3, x4, v =>
    if x3 ≤ x4 then (
      some (0, v))
    else (
      ck_ (0 ≤ x4 ∧ x4 < 34) (
      ck_ (0 ≤ v (x1 + 3) x4 ∧ v (x1 + 3) x4 < 34) (
      lt_ ((x1 + 2) + (5 + 2 * (v (x1 + 3) x4))) fun y7 =>
      bd_ (fX6_resultOf x0 (y7 + 1) v) fun q11 =>
      ck_ (0 ≤ x4 ∧ x4 < 34) (
      lt_ (up_ q11.2 (x0 + 5) x4 q11.1) fun v13 =>
      bd_ (fX6_valueOf x0 (v13 (y7 + 1) 2) v13) fun q16 =>
      ck_ (0 ≤ x4 ∧ x4 < 34) (
      lt_ (up_ q16.2 (x0 + 6) x4 q16.1) fun v18 =>
      bd_ (fX6_wouldFault x0 (y7 + 1) v18) fun q20 =>
      if q20.1 = 0 then (
        lt_ (wr_ (x4 + 1)) fun y22 =>
        (fX6_readAll_3 n) x0 x1 x3 y22 q20.2)
      else (
        if (q20.2 y7 10) = 0 then (
          bd_ (fX6_fault x0 q20.2) fun q24 =>
          lt_ (wr_ (x4 + 1)) fun y25 =>
          (fX6_readAll_3 n) x0 x1 x3 y25 q24.2)
        else (
          lt_ (up_ q20.2 x0 11 (lO_ (q20.2 x0 11) (lL_ 1 (q20.2 y7 6)))) fun v26 =>
          lt_ (wr_ (x4 + 1)) fun y27 =>
          (fX6_readAll_3 n) x0 x1 x3 y27 v26)))))))
def fX6_readAll (x0 x1 x2 x3 : Int) (v : V_) : Option (Int × V_) :=
  fX6_readAll_3 fu_ x0 x1 x3 x2 v
section
variable {E : En_} {p : Program} {l : Launch} {e : Env} {s : State} {m : MethodId} {args : Array Value} {below : List Frame} {meth : Method} {c : Code} {sz : Int}
theorem tX6_readAll_3 (C : MC_ E p s m c cX6_readAll 6 RX6) (hr : meth.sig.returnType = (none : Option FieldType)) (hlk : meth.locks = false) (hC : Cl_ E.2.2.2.2.2 sz) {out : Int × V_} : ∀ (n : Nat) (x0 x1 x3 x4 : Int) (v : V_), (E.2.2.2.2.2 x0 ∧ ty_ x0 = 6 ∧ ln_ x0 = 0) → (E.2.2.2.2.2 x1 ∧ ty_ x1 = 10 ∧ ln_ x1 = 0) → fX6_readAll_3 n x0 x1 x3 x4 v = some out → G_ E p l e (rm_ 2 44) s m args below meth c 6 sz (Q_ E below args s sz sz 9 out.1 out.2) 3 [(0, (2, x0)), (1, (2, x1)), (3, (0, x3)), (4, (0, x4))] [] v sz := by
  intro n
  induction n with
  | zero =>
    intro x0 x1 x3 x4 v T0 T1 h
    cases h
  | succ n H_3 =>
    intro x0 x1 x3 x4 v T0 T1 h
    rw [fX6_readAll_3] at h
    refine g_iload C (i := 4) dX6_readAll_3 3 rfl ?_
    refine g_iload_n C (f := 3) dX6_readAll_5 2 rfl ?_
    refine g_icmp_ge C 107 dX6_readAll_6 rfl (fun c1 => ?_) (fun c1 => ?_)
    · replace h := if_t h c1
      cases h
      exact g_vret C dX6_readAll_107 hr hlk
    · replace h := if_f h c1
      refine g_aload_n C (f := 1) dX6_readAll_9 1 rfl ?_
      have F2 := fX10_2 hC T1.1 T1.2.1
      refine g_getR C (k := 2) (o := 2) okX10 (by decide) kf_RX6_154 dX6_readAll_10 hC T1.1 T1.2.1 rfl rfl ?_
      refine g_aload_n C (f := 1) dX6_readAll_13 1 rfl ?_
      have F3 := fX10_12 hC T1.1 T1.2.1
      refine g_getR C (k := 12) (o := 3) okX10 (by decide) kf_RX6_184 dX6_readAll_14 hC T1.1 T1.2.1 rfl rfl ?_
      refine g_iload C (i := 4) dX6_readAll_17 3 rfl ?_
      obtain ⟨c4, h⟩ := ck_e h
      refine g_iald C 34 dX6_readAll_19 (rg_ hC F3.1) F3.2.1 F3.2.2 c4 ?_
      obtain ⟨c5, h⟩ := ck_e h
      have F6 := fE_items (i := v (x1 + 3) x4) hC F2.1 F2.2.1 F2.2.2 c5
      refine g_aald C 26 34 5 2 dX6_readAll_20 hC F2.1 F2.2.1 F2.2.2 c5 (by decide) oA_items ?_
      obtain ⟨y7, ey7, h⟩ := lt_e h
      refine g_set C ey7 ?_
      have F8 : (E.2.2.2.2.2 y7 ∧ ty_ y7 = 1 ∧ ln_ y7 = 0) := by rw [ey7]; exact F6
      refine g_astore C (i := 5) (ls' := [(5, (2, y7)), (0, (2, x0)), (1, (2, x1)), (3, (0, x3)), (4, (0, x4))]) dX6_readAll_21 (by decide) rfl ?_
      refine g_aload_n C (f := 0) dX6_readAll_23 1 rfl ?_
      have F9 := fX6_12 hC T0.1 T0.2.1
      refine g_getR C (k := 12) (o := 5) okX6 (by decide) kf_RX6_24 dX6_readAll_24 hC T0.1 T0.2.1 rfl rfl ?_
      refine g_iload C (i := 4) dX6_readAll_27 4 rfl ?_
      refine g_aload_n C (f := 0) dX6_readAll_29 1 rfl ?_
      refine g_aload C (i := 5) dX6_readAll_30 0 rfl ?_
      have F10 := fX1_0 hC F8.1 F8.2.1
      refine g_getR C (k := 0) (o := 1) okX1 (by decide) kf_RX6_194 dX6_readAll_32 hC F8.1 F8.2.1 rfl rfl ?_
      obtain ⟨q11, eq11, h⟩ := bd_e h
      refine g_cV C [(2, y7 + 1)] (cX6_resultOf_ok l hC T0 F10 eq11) okX6 T0.2.1 (rg_ hC T0.1) km_RX6_108 cv_X6_resultOf rfl (by decide) rfl rfl (Nat.le_of_ble_eq_true rfl) dX6_readAll_35 ?_
      obtain ⟨c12, h⟩ := ck_e h
      obtain ⟨v13, ev13, h⟩ := lt_e h
      refine g_iast C 34 dX6_readAll_38 (rg_ hC F9.1) F9.2.1 F9.2.2 c12 v13 ev13 ?_
      refine g_aload_n C (f := 0) dX6_readAll_39 1 rfl ?_
      have F14 := fX6_13 hC T0.1 T0.2.1
      refine g_getR C (k := 13) (o := 6) okX6 (by decide) kf_RX6_27 dX6_readAll_40 hC T0.1 T0.2.1 rfl rfl ?_
      refine g_iload C (i := 4) dX6_readAll_43 4 rfl ?_
      refine g_aload_n C (f := 0) dX6_readAll_45 1 rfl ?_
      refine g_aload C (i := 5) dX6_readAll_46 0 rfl ?_
      have F15 := fX1_0 hC F8.1 F8.2.1
      refine g_getR C (k := 0) (o := 1) okX1 (by decide) kf_RX6_194 dX6_readAll_48 hC F8.1 F8.2.1 rfl rfl ?_
      refine g_getf C (k := 2) (kd := 0) okX8 (by decide) kf_RX6_112 dX6_readAll_51 (rg_ hC F15.1) F15.2.1 rfl ?_
      obtain ⟨q16, eq16, h⟩ := bd_e h
      refine g_cV C [(0, v13 (y7 + 1) 2)] (cX6_valueOf_ok l hC T0 eq16) okX6 T0.2.1 (rg_ hC T0.1) km_RX6_117 cv_X6_valueOf rfl (by decide) rfl rfl (Nat.le_of_ble_eq_true rfl) dX6_readAll_54 ?_
      obtain ⟨c17, h⟩ := ck_e h
      obtain ⟨v18, ev18, h⟩ := lt_e h
      refine g_iast C 34 dX6_readAll_57 (rg_ hC F14.1) F14.2.1 F14.2.2 c17 v18 ev18 ?_
      refine g_aload_n C (f := 0) dX6_readAll_58 1 rfl ?_
      refine g_aload C (i := 5) dX6_readAll_59 0 rfl ?_
      have F19 := fX1_0 hC F8.1 F8.2.1
      refine g_getR C (k := 0) (o := 1) okX1 (by decide) kf_RX6_194 dX6_readAll_61 hC F8.1 F8.2.1 rfl rfl ?_
      obtain ⟨q20, eq20, h⟩ := bd_e h
      refine g_cV C [(2, y7 + 1)] (cX6_wouldFault_ok l hC T0 F19 eq20) okX6 T0.2.1 (rg_ hC T0.1) km_RX6_101 cv_X6_wouldFault rfl (by decide) rfl rfl (Nat.le_of_ble_eq_true rfl) dX6_readAll_64 ?_
      refine g_if_eq C 101 dX6_readAll_67 rfl (fun c21 => ?_) (fun c21 => ?_)
      · replace h := if_t h c21
        obtain ⟨y22, ey22, h⟩ := lt_e h
        refine g_iincx C (ls' := [(4, (0, y22)), (5, (2, y7)), (0, (2, x0)), (1, (2, x1)), (3, (0, x3))]) ey22 dX6_readAll_101 4 rfl (by decide) (by decide) rfl ?_
        refine g_goto C 3 dX6_readAll_104 rfl ?_
        refine g_sub [2, 3, 4, 0] rfl rfl ?_
        exact H_3 _ _ _ _ _ T0 T1 h
      · replace h := if_f h c21
        refine g_aload C (i := 5) dX6_readAll_70 0 rfl ?_
        refine g_getf C (k := 10) (kd := 0) okX1 (by decide) kf_RX6_202 dX6_readAll_72 (rg_ hC F8.1) F8.2.1 rfl ?_
        refine g_if_eq C 97 dX6_readAll_75 rfl (fun c23 => ?_) (fun c23 => ?_)
        · replace h := if_t h c23
          refine g_aload_n C (f := 0) dX6_readAll_97 1 rfl ?_
          obtain ⟨q24, eq24, h⟩ := bd_e h
          refine g_cV C [] (cX6_fault_ok l hC T0 eq24) okX6 T0.2.1 (rg_ hC T0.1) km_RX6_105 cv_X6_fault rfl (by decide) rfl rfl (Nat.le_of_ble_eq_true rfl) dX6_readAll_98 ?_
          obtain ⟨y25, ey25, h⟩ := lt_e h
          refine g_iincx C (ls' := [(4, (0, y25)), (5, (2, y7)), (0, (2, x0)), (1, (2, x1)), (3, (0, x3))]) ey25 dX6_readAll_101 4 rfl (by decide) (by decide) rfl ?_
          refine g_goto C 3 dX6_readAll_104 rfl ?_
          refine g_sub [2, 3, 4, 0] rfl rfl ?_
          exact H_3 _ _ _ _ _ T0 T1 h
        · replace h := if_f h c23
          refine g_aload_n C (f := 0) dX6_readAll_78 1 rfl ?_
          refine g_dup C (Nat.ne_of_beq_eq_false rfl) dX6_readAll_79 ?_
          refine g_getf C (k := 11) (kd := 1) okX6 (by decide) kf_RX6_142 dX6_readAll_80 (rg_ hC T0.1) T0.2.1 rfl ?_
          refine g_lconst C (z := 1) dX6_readAll_83 (by decide) ?_
          refine g_aload C (i := 5) dX6_readAll_84 0 rfl ?_
          refine g_getf C (k := 6) (kd := 0) okX1 (by decide) kf_RX6_206 dX6_readAll_86 (rg_ hC F8.1) F8.2.1 rfl ?_
          refine g_lshl C dX6_readAll_89 ?_
          refine g_lor C dX6_readAll_90 ?_
          obtain ⟨v26, ev26, h⟩ := lt_e h
          refine g_putf C (k := 11) (kd := 1) okX6 (by decide) kf_RX6_142 dX6_readAll_91 (rg_ hC T0.1) T0.2.1 rfl rfl nvJ (Or.inl rfl) v26 ev26 ?_
          refine g_goto C 101 dX6_readAll_94 rfl ?_
          obtain ⟨y27, ey27, h⟩ := lt_e h
          refine g_iincx C (ls' := [(4, (0, y27)), (5, (2, y7)), (0, (2, x0)), (1, (2, x1)), (3, (0, x3))]) ey27 dX6_readAll_101 4 rfl (by decide) (by decide) rfl ?_
          refine g_goto C 3 dX6_readAll_104 rfl ?_
          refine g_sub [2, 3, 4, 0] rfl rfl ?_
          exact H_3 _ _ _ _ _ T0 T1 h
end
theorem cX6_readAll_ok (l : Launch) {E : En_} {sz : Int} (hC : Cl_ E.2.2.2.2.2 sz) {x0 x1 x2 x3 : Int} {v : V_} {out : Int × V_} (T0 : (E.2.2.2.2.2 x0 ∧ ty_ x0 = 6 ∧ ln_ x0 = 0)) (T1 : (E.2.2.2.2.2 x1 ∧ ty_ x1 = 10 ∧ ln_ x1 = 0)) (h : fX6_readAll x0 x1 x2 x3 v = some out) : Met l yX6_readAll [.code yX6_readAll cX6_readAll 6 (none : Option FieldType)] (rm_ 2 44) (Pc_ E sz v [(2, x0), (2, x1), (0, x2), (0, x3)]) (Qc_ E sz 9 out.1 out.2) 0 0 (fun q => E.1 < q) := by
  refine met_G0 RX6 (by decide +kernel) rfl (Nat.le_of_ble_eq_true rfl) ?_
  intro p e s m args below meth c C hr hlk
  rw [fX6_readAll] at h
  refine g_iload_n C (f := 2) dX6_readAll_0 2 rfl ?_
  refine g_istore C (i := 4) (ls' := [(4, (0, x2)), (0, (2, x0)), (1, (2, x1)), (2, (0, x2)), (3, (0, x3))]) dX6_readAll_1 (by decide) rfl ?_
  refine g_sub [1, 2, 4, 0] rfl rfl ?_
  exact tX6_readAll_3 C hr hlk hC _ _ _ _ _ _ T0 T1 h
theorem dX6_goCycles_0 : decode cX6_goCycles 0 = .ok (.iconst 0, 1) := by decide +kernel
theorem dX6_goCycles_1 : decode cX6_goCycles 1 = .ok (.istore_n 2, 1) := by decide +kernel
theorem dX6_goCycles_2 : decode cX6_goCycles 2 = .ok (.iconst 0, 1) := by decide +kernel
theorem dX6_goCycles_3 : decode cX6_goCycles 3 = .ok (.istore_n 3, 1) := by decide +kernel
theorem dX6_goCycles_4 : decode cX6_goCycles 4 = .ok (.iload_n 3, 1) := by decide +kernel
theorem dX6_goCycles_5 : decode cX6_goCycles 5 = .ok (.aload_n 1, 1) := by decide +kernel
theorem dX6_goCycles_6 : decode cX6_goCycles 6 = .ok (.getfield 170, 3) := by decide +kernel
theorem dX6_goCycles_9 : decode cX6_goCycles 9 = .ok (.if_icmp .ge 143, 3) := by decide +kernel
theorem dX6_goCycles_12 : decode cX6_goCycles 12 = .ok (.iload_n 2, 1) := by decide +kernel
theorem dX6_goCycles_13 : decode cX6_goCycles 13 = .ok (.istore 4, 2) := by decide +kernel
theorem dX6_goCycles_15 : decode cX6_goCycles 15 = .ok (.iload 4, 2) := by decide +kernel
theorem dX6_goCycles_17 : decode cX6_goCycles 17 = .ok (.aload_n 1, 1) := by decide +kernel
theorem dX6_goCycles_18 : decode cX6_goCycles 18 = .ok (.getfield 181, 3) := by decide +kernel
theorem dX6_goCycles_21 : decode cX6_goCycles 21 = .ok (.if_icmp .ge 28, 3) := by decide +kernel
theorem dX6_goCycles_24 : decode cX6_goCycles 24 = .ok (.aload_n 1, 1) := by decide +kernel
theorem dX6_goCycles_25 : decode cX6_goCycles 25 = .ok (.getfield 154, 3) := by decide +kernel
theorem dX6_goCycles_28 : decode cX6_goCycles 28 = .ok (.aload_n 1, 1) := by decide +kernel
theorem dX6_goCycles_29 : decode cX6_goCycles 29 = .ok (.getfield 184, 3) := by decide +kernel
theorem dX6_goCycles_32 : decode cX6_goCycles 32 = .ok (.iload 4, 2) := by decide +kernel
theorem dX6_goCycles_34 : decode cX6_goCycles 34 = .ok (.iaload, 1) := by decide +kernel
theorem dX6_goCycles_35 : decode cX6_goCycles 35 = .ok (.aaload, 1) := by decide +kernel
theorem dX6_goCycles_36 : decode cX6_goCycles 36 = .ok (.getfield 187, 3) := by decide +kernel
theorem dX6_goCycles_39 : decode cX6_goCycles 39 = .ok (.iload_n 3, 1) := by decide +kernel
theorem dX6_goCycles_40 : decode cX6_goCycles 40 = .ok (.if_icmp .ne 9, 3) := by decide +kernel
theorem dX6_goCycles_43 : decode cX6_goCycles 43 = .ok (.iinc 4 1, 3) := by decide +kernel
theorem dX6_goCycles_46 : decode cX6_goCycles 46 = .ok (.goto (-31), 3) := by decide +kernel
theorem dX6_goCycles_49 : decode cX6_goCycles 49 = .ok (.aload_n 0, 1) := by decide +kernel
theorem dX6_goCycles_50 : decode cX6_goCycles 50 = .ok (.aload_n 1, 1) := by decide +kernel
theorem dX6_goCycles_51 : decode cX6_goCycles 51 = .ok (.iload_n 2, 1) := by decide +kernel
theorem dX6_goCycles_52 : decode cX6_goCycles 52 = .ok (.iload 4, 2) := by decide +kernel
theorem dX6_goCycles_54 : decode cX6_goCycles 54 = .ok (.invokevirtual 190, 3) := by decide +kernel
theorem dX6_goCycles_57 : decode cX6_goCycles 57 = .ok (.aload_n 0, 1) := by decide +kernel
theorem dX6_goCycles_58 : decode cX6_goCycles 58 = .ok (.getfield 65, 3) := by decide +kernel
theorem dX6_goCycles_61 : decode cX6_goCycles 61 = .ok (.iconst 1, 1) := by decide +kernel
theorem dX6_goCycles_62 : decode cX6_goCycles 62 = .ok (.if_icmp .ne 5, 3) := by decide +kernel
theorem dX6_goCycles_65 : decode cX6_goCycles 65 = .ok (.iconst (-1), 1) := by decide +kernel
theorem dX6_goCycles_66 : decode cX6_goCycles 66 = .ok (.ireturn, 1) := by decide +kernel
theorem dX6_goCycles_67 : decode cX6_goCycles 67 = .ok (.iload_n 2, 1) := by decide +kernel
theorem dX6_goCycles_68 : decode cX6_goCycles 68 = .ok (.istore 5, 2) := by decide +kernel
theorem dX6_goCycles_70 : decode cX6_goCycles 70 = .ok (.iload 5, 2) := by decide +kernel
theorem dX6_goCycles_72 : decode cX6_goCycles 72 = .ok (.iload 4, 2) := by decide +kernel
theorem dX6_goCycles_74 : decode cX6_goCycles 74 = .ok (.if_icmp .ge 42, 3) := by decide +kernel
theorem dX6_goCycles_77 : decode cX6_goCycles 77 = .ok (.aload_n 0, 1) := by decide +kernel
theorem dX6_goCycles_78 : decode cX6_goCycles 78 = .ok (.aload_n 1, 1) := by decide +kernel
theorem dX6_goCycles_79 : decode cX6_goCycles 79 = .ok (.getfield 154, 3) := by decide +kernel
theorem dX6_goCycles_82 : decode cX6_goCycles 82 = .ok (.aload_n 1, 1) := by decide +kernel
theorem dX6_goCycles_83 : decode cX6_goCycles 83 = .ok (.getfield 184, 3) := by decide +kernel
theorem dX6_goCycles_86 : decode cX6_goCycles 86 = .ok (.iload 5, 2) := by decide +kernel
theorem dX6_goCycles_88 : decode cX6_goCycles 88 = .ok (.iaload, 1) := by decide +kernel
theorem dX6_goCycles_89 : decode cX6_goCycles 89 = .ok (.aaload, 1) := by decide +kernel
theorem dX6_goCycles_90 : decode cX6_goCycles 90 = .ok (.getfield 194, 3) := by decide +kernel
theorem dX6_goCycles_93 : decode cX6_goCycles 93 = .ok (.aload_n 0, 1) := by decide +kernel
theorem dX6_goCycles_94 : decode cX6_goCycles 94 = .ok (.getfield 24, 3) := by decide +kernel
theorem dX6_goCycles_97 : decode cX6_goCycles 97 = .ok (.iload 5, 2) := by decide +kernel
theorem dX6_goCycles_99 : decode cX6_goCycles 99 = .ok (.iaload, 1) := by decide +kernel
theorem dX6_goCycles_100 : decode cX6_goCycles 100 = .ok (.aload_n 0, 1) := by decide +kernel
theorem dX6_goCycles_101 : decode cX6_goCycles 101 = .ok (.getfield 27, 3) := by decide +kernel
theorem dX6_goCycles_104 : decode cX6_goCycles 104 = .ok (.iload 5, 2) := by decide +kernel
theorem dX6_goCycles_106 : decode cX6_goCycles 106 = .ok (.iaload, 1) := by decide +kernel
theorem dX6_goCycles_107 : decode cX6_goCycles 107 = .ok (.invokevirtual 120, 3) := by decide +kernel
theorem dX6_goCycles_110 : decode cX6_goCycles 110 = .ok (.iinc 5 1, 3) := by decide +kernel
theorem dX6_goCycles_113 : decode cX6_goCycles 113 = .ok (.goto (-43), 3) := by decide +kernel
theorem dX6_goCycles_116 : decode cX6_goCycles 116 = .ok (.aload_n 0, 1) := by decide +kernel
theorem dX6_goCycles_117 : decode cX6_goCycles 117 = .ok (.aload_n 1, 1) := by decide +kernel
theorem dX6_goCycles_118 : decode cX6_goCycles 118 = .ok (.iload_n 2, 1) := by decide +kernel
theorem dX6_goCycles_119 : decode cX6_goCycles 119 = .ok (.iload 4, 2) := by decide +kernel
theorem dX6_goCycles_121 : decode cX6_goCycles 121 = .ok (.invokevirtual 198, 3) := by decide +kernel
theorem dX6_goCycles_124 : decode cX6_goCycles 124 = .ok (.istore 5, 2) := by decide +kernel
theorem dX6_goCycles_126 : decode cX6_goCycles 126 = .ok (.iload 5, 2) := by decide +kernel
theorem dX6_goCycles_128 : decode cX6_goCycles 128 = .ok (.iconst (-1), 1) := by decide +kernel
theorem dX6_goCycles_129 : decode cX6_goCycles 129 = .ok (.if_icmp .ne 11, 3) := by decide +kernel
theorem dX6_goCycles_132 : decode cX6_goCycles 132 = .ok (.aload_n 0, 1) := by decide +kernel
theorem dX6_goCycles_133 : decode cX6_goCycles 133 = .ok (.getfield 65, 3) := by decide +kernel
theorem dX6_goCycles_136 : decode cX6_goCycles 136 = .ok (.iconst 1, 1) := by decide +kernel
theorem dX6_goCycles_137 : decode cX6_goCycles 137 = .ok (.if_icmp .ne 6, 3) := by decide +kernel
theorem dX6_goCycles_140 : decode cX6_goCycles 140 = .ok (.iload 5, 2) := by decide +kernel
theorem dX6_goCycles_142 : decode cX6_goCycles 142 = .ok (.ireturn, 1) := by decide +kernel
theorem dX6_goCycles_143 : decode cX6_goCycles 143 = .ok (.iload 4, 2) := by decide +kernel
theorem dX6_goCycles_145 : decode cX6_goCycles 145 = .ok (.istore_n 2, 1) := by decide +kernel
theorem dX6_goCycles_146 : decode cX6_goCycles 146 = .ok (.iinc 3 1, 3) := by decide +kernel
theorem dX6_goCycles_149 : decode cX6_goCycles 149 = .ok (.goto (-145), 3) := by decide +kernel
theorem dX6_goCycles_152 : decode cX6_goCycles 152 = .ok (.iconst (-1), 1) := by decide +kernel
theorem dX6_goCycles_153 : decode cX6_goCycles 153 = .ok (.ireturn, 1) := by decide +kernel
def fX6_goCycles_70 (k4 : Int → Int → Int → Int → V_ → Option (Int × V_)) : Nat → Int → Int → Int → Int → Int → Int → V_ → Option (Int × V_)
  | 0, _, _, _, _, _, _, _ => none
  | n + 1, x0, x1, x2, x3, x4, x5, v =>
    if x4 ≤ x5 then (
      bd_ (fX6_decide x0 x1 x2 x4 v) fun q6 =>
      if q6.1 = (-1) then (
        if (q6.2 x0 4) = 1 then (
          some (q6.1, q6.2))
        else (
          lt_ (wr_ (x3 + 1)) fun y9 =>
          k4 x0 x1 x4 y9 q6.2))
      else (
        some (q6.1, q6.2)))
    else (
      ck_ (0 ≤ x5 ∧ x5 < 34) (
      ck_ (0 ≤ v (x1 + 3) x5 ∧ v (x1 + 3) x5 < 34) (
      ck_ (0 ≤ x5 ∧ x5 < 34) (
      ck_ (0 ≤ x5 ∧ x5 < 34) (
      bd_ (fX6_settle x0 (((x1 + 2) + (5 + 2 * (v (x1 + 3) x5))) + 1) (v (x0 + 5) x5) (v (x0 + 6) x5) v) fun q20 =>
      lt_ (wr_ (x5 + 1)) fun y21 =>
      (fX6_goCycles_70 k4 n) x0 x1 x2 x3 x4 y21 q20.2)))))
def fX6_goCycles_49 (k4 : Int → Int → Int → Int → V_ → Option (Int × V_)) (x0 x1 x2 x3 x4 : Int) (v : V_) : Option (Int × V_) :=
  bd_ (fX6_readAll x0 x1 x2 x4 v) fun q3 =>
  if (q3.2 x0 4) = 1 then (
    some ((-1), q3.2))
  else (
    fX6_goCycles_70 k4 fu_ x0 x1 x2 x3 x4 x2 q3.2)
def fX6_goCycles_15 (k4 : Int → Int → Int → Int → V_ → Option (Int × V_)) : Nat → Int → Int → Int → Int → Int → V_ → Option (Int × V_)
  | 0, _, _, _, _, _, _ => none
  | n + 1, x0, x1, x2, x3, x4, v =>
    if (v x1 3) ≤ x4 then (
      fX6_goCycles_49 k4 x0 x1 x2 x3 x4 v)
    else (
      ck_ (0 ≤ x4 ∧ x4 < 34) (
      ck_ (0 ≤ v (x1 + 3) x4 ∧ v (x1 + 3) x4 < 34) (
      if (v ((x1 + 2) + (5 + 2 * (v (x1 + 3) x4))) 7) = x3 then (
        lt_ (wr_ (x4 + 1)) fun y28 =>
        (fX6_goCycles_15 k4 n) x0 x1 x2 x3 y28 v)
      else (
        fX6_goCycles_49 k4 x0 x1 x2 x3 x4 v))))
def fX6_goCycles_4 : Nat → Int → Int → Int → Int → V_ → Option (Int × V_)
  | 0, _, _, _, _, _ => none
  | n + 1, x0, x1, x2, x3, v =>
    if (v x1 9) ≤ x3 then (
      some ((-1), v))
    else (
      fX6_goCycles_15 (fX6_goCycles_4 n) fu_ x0 x1 x2 x3 x2 v)
def fX6_goCycles (x0 x1 : Int) (v : V_) : Option (Int × V_) :=
  fX6_goCycles_4 fu_ x0 x1 0 0 v
section
variable {E : En_} {p : Program} {l : Launch} {e : Env} {s : State} {m : MethodId} {args : Array Value} {below : List Frame} {meth : Method} {c : Code} {sz : Int}
theorem tX6_goCycles_70 (C : MC_ E p s m c cX6_goCycles 6 RX6) (hr : meth.sig.returnType = (some FieldType.int)) (hlk : meth.locks = false) (hC : Cl_ E.2.2.2.2.2 sz) {out : Int × V_} (k4 : Int → Int → Int → Int → V_ → Option (Int × V_)) (H_4 : ∀ (x0 x1 x2 x3 : Int) (v : V_), (E.2.2.2.2.2 x0 ∧ ty_ x0 = 6 ∧ ln_ x0 = 0) → (E.2.2.2.2.2 x1 ∧ ty_ x1 = 10 ∧ ln_ x1 = 0) → k4 x0 x1 x2 x3 v = some out → G_ E p l e (rm_ 3 69) s m args below meth c 6 sz (Q_ E below args s sz sz 0 out.1 out.2) 4 [(0, (2, x0)), (1, (2, x1)), (2, (0, x2)), (3, (0, x3))] [] v sz) : ∀ (n : Nat) (x0 x1 x2 x3 x4 x5 : Int) (v : V_), (E.2.2.2.2.2 x0 ∧ ty_ x0 = 6 ∧ ln_ x0 = 0) → (E.2.2.2.2.2 x1 ∧ ty_ x1 = 10 ∧ ln_ x1 = 0) → fX6_goCycles_70 k4 n x0 x1 x2 x3 x4 x5 v = some out → G_ E p l e (rm_ 3 69) s m args below meth c 6 sz (Q_ E below args s sz sz 0 out.1 out.2) 70 [(0, (2, x0)), (1, (2, x1)), (2, (0, x2)), (3, (0, x3)), (4, (0, x4)), (5, (0, x5))] [] v sz := by
  intro n
  induction n with
  | zero =>
    intro x0 x1 x2 x3 x4 x5 v T0 T1 h
    cases h
  | succ n H_70 =>
    intro x0 x1 x2 x3 x4 x5 v T0 T1 h
    rw [fX6_goCycles_70] at h
    refine g_iload C (i := 5) dX6_goCycles_70 5 rfl ?_
    refine g_iload C (i := 4) dX6_goCycles_72 4 rfl ?_
    refine g_icmp_ge C 116 dX6_goCycles_74 rfl (fun c5 => ?_) (fun c5 => ?_)
    · replace h := if_t h c5
      refine g_aload_n C (f := 0) dX6_goCycles_116 0 rfl ?_
      refine g_aload_n C (f := 1) dX6_goCycles_117 1 rfl ?_
      refine g_iload_n C (f := 2) dX6_goCycles_118 2 rfl ?_
      refine g_iload C (i := 4) dX6_goCycles_119 4 rfl ?_
      obtain ⟨q6, eq6, h⟩ := bd_e h
      refine g_cV C [(2, x1), (0, x2), (0, x4)] (cX6_decide_ok l hC T0 T1 eq6) okX6 T0.2.1 (rg_ hC T0.1) km_RX6_198 cv_X6_decide rfl (by decide) rfl rfl (Nat.le_of_ble_eq_true rfl) dX6_goCycles_121 ?_
      refine g_istore C (i := 5) (ls' := [(5, (0, q6.1)), (0, (2, x0)), (1, (2, x1)), (2, (0, x2)), (3, (0, x3)), (4, (0, x4))]) dX6_goCycles_124 (by decide) rfl ?_
      refine g_iload C (i := 5) dX6_goCycles_126 0 rfl ?_
      refine g_iconst C (n := (-1)) dX6_goCycles_128 (by decide) ?_
      refine g_icmp_ne C 140 dX6_goCycles_129 rfl (fun c7 => ?_) (fun c7 => ?_)
      · replace h := if_f h c7
        refine g_iload C (i := 5) dX6_goCycles_140 0 rfl ?_
        cases h
        exact g_iret C dX6_goCycles_142 hr hlk
      · replace h := if_t h c7
        refine g_aload_n C (f := 0) dX6_goCycles_132 1 rfl ?_
        refine g_getf C (k := 4) (kd := 0) okX6 (by decide) kf_RX6_65 dX6_goCycles_133 (rg_ hC T0.1) T0.2.1 rfl ?_
        refine g_iconst C (n := 1) dX6_goCycles_136 (by decide) ?_
        refine g_icmp_ne C 143 dX6_goCycles_137 rfl (fun c8 => ?_) (fun c8 => ?_)
        · replace h := if_f h c8
          refine g_iload C (i := 4) dX6_goCycles_143 5 rfl ?_
          refine g_istore_n C (f := 2) (ls' := [(2, (0, x4)), (5, (0, q6.1)), (0, (2, x0)), (1, (2, x1)), (3, (0, x3)), (4, (0, x4))]) dX6_goCycles_145 (by decide) rfl ?_
          obtain ⟨y9, ey9, h⟩ := lt_e h
          refine g_iincx C (ls' := [(3, (0, y9)), (2, (0, x4)), (5, (0, q6.1)), (0, (2, x0)), (1, (2, x1)), (4, (0, x4))]) ey9 dX6_goCycles_146 4 rfl (by decide) (by decide) rfl ?_
          refine g_goto C 4 dX6_goCycles_149 rfl ?_
          refine g_sub [3, 4, 1, 0] rfl rfl ?_
          exact H_4 _ _ _ _ _ T0 T1 h
        · replace h := if_t h c8
          refine g_iload C (i := 5) dX6_goCycles_140 0 rfl ?_
          cases h
          exact g_iret C dX6_goCycles_142 hr hlk
    · replace h := if_f h c5
      refine g_aload_n C (f := 0) dX6_goCycles_77 0 rfl ?_
      refine g_aload_n C (f := 1) dX6_goCycles_78 1 rfl ?_
      have F10 := fX10_2 hC T1.1 T1.2.1
      refine g_getR C (k := 2) (o := 2) okX10 (by decide) kf_RX6_154 dX6_goCycles_79 hC T1.1 T1.2.1 rfl rfl ?_
      refine g_aload_n C (f := 1) dX6_goCycles_82 1 rfl ?_
      have F11 := fX10_12 hC T1.1 T1.2.1
      refine g_getR C (k := 12) (o := 3) okX10 (by decide) kf_RX6_184 dX6_goCycles_83 hC T1.1 T1.2.1 rfl rfl ?_
      refine g_iload C (i := 5) dX6_goCycles_86 5 rfl ?_
      obtain ⟨c12, h⟩ := ck_e h
      refine g_iald C 34 dX6_goCycles_88 (rg_ hC F11.1) F11.2.1 F11.2.2 c12 ?_
      obtain ⟨c13, h⟩ := ck_e h
      have F14 := fE_items (i := v (x1 + 3) x5) hC F10.1 F10.2.1 F10.2.2 c13
      refine g_aald C 26 34 5 2 dX6_goCycles_89 hC F10.1 F10.2.1 F10.2.2 c13 (by decide) oA_items ?_
      have F15 := fX1_0 hC F14.1 F14.2.1
      refine g_getR C (k := 0) (o := 1) okX1 (by decide) kf_RX6_194 dX6_goCycles_90 hC F14.1 F14.2.1 rfl rfl ?_
      refine g_aload_n C (f := 0) dX6_goCycles_93 0 rfl ?_
      have F16 := fX6_12 hC T0.1 T0.2.1
      refine g_getR C (k := 12) (o := 5) okX6 (by decide) kf_RX6_24 dX6_goCycles_94 hC T0.1 T0.2.1 rfl rfl ?_
      refine g_iload C (i := 5) dX6_goCycles_97 5 rfl ?_
      obtain ⟨c17, h⟩ := ck_e h
      refine g_iald C 34 dX6_goCycles_99 (rg_ hC F16.1) F16.2.1 F16.2.2 c17 ?_
      refine g_aload_n C (f := 0) dX6_goCycles_100 0 rfl ?_
      have F18 := fX6_13 hC T0.1 T0.2.1
      refine g_getR C (k := 13) (o := 6) okX6 (by decide) kf_RX6_27 dX6_goCycles_101 hC T0.1 T0.2.1 rfl rfl ?_
      refine g_iload C (i := 5) dX6_goCycles_104 5 rfl ?_
      obtain ⟨c19, h⟩ := ck_e h
      refine g_iald C 34 dX6_goCycles_106 (rg_ hC F18.1) F18.2.1 F18.2.2 c19 ?_
      obtain ⟨q20, eq20, h⟩ := bd_e h
      refine g_cV C [(2, ((x1 + 2) + (5 + 2 * (v (x1 + 3) x5))) + 1), (0, v (x0 + 5) x5), (0, v (x0 + 6) x5)] (cX6_settle_ok l hC T0 F15 eq20) okX6 T0.2.1 (rg_ hC T0.1) km_RX6_120 cv_X6_settle rfl (by decide) rfl rfl (Nat.le_of_ble_eq_true rfl) dX6_goCycles_107 ?_
      obtain ⟨y21, ey21, h⟩ := lt_e h
      refine g_iincx C (ls' := [(5, (0, y21)), (0, (2, x0)), (1, (2, x1)), (2, (0, x2)), (3, (0, x3)), (4, (0, x4))]) ey21 dX6_goCycles_110 5 rfl (by decide) (by decide) rfl ?_
      refine g_goto C 70 dX6_goCycles_113 rfl ?_
      refine g_sub [1, 2, 3, 4, 5, 0] rfl rfl ?_
      exact H_70 _ _ _ _ _ _ _ T0 T1 h
theorem tX6_goCycles_49 (C : MC_ E p s m c cX6_goCycles 6 RX6) (hr : meth.sig.returnType = (some FieldType.int)) (hlk : meth.locks = false) (hC : Cl_ E.2.2.2.2.2 sz) {out : Int × V_} (k4 : Int → Int → Int → Int → V_ → Option (Int × V_)) (H_4 : ∀ (x0 x1 x2 x3 : Int) (v : V_), (E.2.2.2.2.2 x0 ∧ ty_ x0 = 6 ∧ ln_ x0 = 0) → (E.2.2.2.2.2 x1 ∧ ty_ x1 = 10 ∧ ln_ x1 = 0) → k4 x0 x1 x2 x3 v = some out → G_ E p l e (rm_ 3 69) s m args below meth c 6 sz (Q_ E below args s sz sz 0 out.1 out.2) 4 [(0, (2, x0)), (1, (2, x1)), (2, (0, x2)), (3, (0, x3))] [] v sz) (x0 x1 x2 x3 x4 : Int) (v : V_) (T0 : (E.2.2.2.2.2 x0 ∧ ty_ x0 = 6 ∧ ln_ x0 = 0)) (T1 : (E.2.2.2.2.2 x1 ∧ ty_ x1 = 10 ∧ ln_ x1 = 0)) (h : fX6_goCycles_49 k4 x0 x1 x2 x3 x4 v = some out) : G_ E p l e (rm_ 3 69) s m args below meth c 6 sz (Q_ E below args s sz sz 0 out.1 out.2) 49 [(0, (2, x0)), (1, (2, x1)), (2, (0, x2)), (3, (0, x3)), (4, (0, x4))] [] v sz := by
  rw [fX6_goCycles_49] at h
  refine g_aload_n C (f := 0) dX6_goCycles_49 0 rfl ?_
  refine g_aload_n C (f := 1) dX6_goCycles_50 1 rfl ?_
  refine g_iload_n C (f := 2) dX6_goCycles_51 2 rfl ?_
  refine g_iload C (i := 4) dX6_goCycles_52 4 rfl ?_
  obtain ⟨q3, eq3, h⟩ := bd_e h
  refine g_cV C [(2, x1), (0, x2), (0, x4)] (cX6_readAll_ok l hC T0 T1 eq3) okX6 T0.2.1 (rg_ hC T0.1) km_RX6_190 cv_X6_readAll rfl (by decide) rfl rfl (Nat.le_of_ble_eq_true rfl) dX6_goCycles_54 ?_
  refine g_aload_n C (f := 0) dX6_goCycles_57 0 rfl ?_
  refine g_getf C (k := 4) (kd := 0) okX6 (by decide) kf_RX6_65 dX6_goCycles_58 (rg_ hC T0.1) T0.2.1 rfl ?_
  refine g_iconst C (n := 1) dX6_goCycles_61 (by decide) ?_
  refine g_icmp_ne C 67 dX6_goCycles_62 rfl (fun c4 => ?_) (fun c4 => ?_)
  · replace h := if_f h c4
    refine g_iload_n C (f := 2) dX6_goCycles_67 2 rfl ?_
    refine g_istore C (i := 5) (ls' := [(5, (0, x2)), (0, (2, x0)), (1, (2, x1)), (2, (0, x2)), (3, (0, x3)), (4, (0, x4))]) dX6_goCycles_68 (by decide) rfl ?_
    refine g_sub [1, 2, 3, 4, 5, 0] rfl rfl ?_
    exact tX6_goCycles_70 C hr hlk hC _ H_4 _ _ _ _ _ _ _ _ T0 T1 h
  · replace h := if_t h c4
    refine g_iconst C (n := (-1)) dX6_goCycles_65 (by decide) ?_
    cases h
    exact g_iret C dX6_goCycles_66 hr hlk
theorem tX6_goCycles_15 (C : MC_ E p s m c cX6_goCycles 6 RX6) (hr : meth.sig.returnType = (some FieldType.int)) (hlk : meth.locks = false) (hC : Cl_ E.2.2.2.2.2 sz) {out : Int × V_} (k4 : Int → Int → Int → Int → V_ → Option (Int × V_)) (H_4 : ∀ (x0 x1 x2 x3 : Int) (v : V_), (E.2.2.2.2.2 x0 ∧ ty_ x0 = 6 ∧ ln_ x0 = 0) → (E.2.2.2.2.2 x1 ∧ ty_ x1 = 10 ∧ ln_ x1 = 0) → k4 x0 x1 x2 x3 v = some out → G_ E p l e (rm_ 3 69) s m args below meth c 6 sz (Q_ E below args s sz sz 0 out.1 out.2) 4 [(0, (2, x0)), (1, (2, x1)), (2, (0, x2)), (3, (0, x3))] [] v sz) : ∀ (n : Nat) (x0 x1 x2 x3 x4 : Int) (v : V_), (E.2.2.2.2.2 x0 ∧ ty_ x0 = 6 ∧ ln_ x0 = 0) → (E.2.2.2.2.2 x1 ∧ ty_ x1 = 10 ∧ ln_ x1 = 0) → fX6_goCycles_15 k4 n x0 x1 x2 x3 x4 v = some out → G_ E p l e (rm_ 3 69) s m args below meth c 6 sz (Q_ E below args s sz sz 0 out.1 out.2) 15 [(0, (2, x0)), (1, (2, x1)), (2, (0, x2)), (3, (0, x3)), (4, (0, x4))] [] v sz := by
  intro n
  induction n with
  | zero =>
    intro x0 x1 x2 x3 x4 v T0 T1 h
    cases h
  | succ n H_15 =>
    intro x0 x1 x2 x3 x4 v T0 T1 h
    rw [fX6_goCycles_15] at h
    refine g_iload C (i := 4) dX6_goCycles_15 4 rfl ?_
    refine g_aload_n C (f := 1) dX6_goCycles_17 1 rfl ?_
    refine g_getf C (k := 3) (kd := 0) okX10 (by decide) kf_RX6_181 dX6_goCycles_18 (rg_ hC T1.1) T1.2.1 rfl ?_
    refine g_icmp_ge C 49 dX6_goCycles_21 rfl (fun c2 => ?_) (fun c2 => ?_)
    · replace h := if_t h c2
      refine g_sub [0, 1, 2, 3, 4] rfl rfl ?_
      exact tX6_goCycles_49 C hr hlk hC _ H_4 _ _ _ _ _ _ T0 T1 h
    · replace h := if_f h c2
      refine g_aload_n C (f := 1) dX6_goCycles_24 1 rfl ?_
      have F22 := fX10_2 hC T1.1 T1.2.1
      refine g_getR C (k := 2) (o := 2) okX10 (by decide) kf_RX6_154 dX6_goCycles_25 hC T1.1 T1.2.1 rfl rfl ?_
      refine g_aload_n C (f := 1) dX6_goCycles_28 1 rfl ?_
      have F23 := fX10_12 hC T1.1 T1.2.1
      refine g_getR C (k := 12) (o := 3) okX10 (by decide) kf_RX6_184 dX6_goCycles_29 hC T1.1 T1.2.1 rfl rfl ?_
      refine g_iload C (i := 4) dX6_goCycles_32 4 rfl ?_
      obtain ⟨c24, h⟩ := ck_e h
      refine g_iald C 34 dX6_goCycles_34 (rg_ hC F23.1) F23.2.1 F23.2.2 c24 ?_
      obtain ⟨c25, h⟩ := ck_e h
      have F26 := fE_items (i := v (x1 + 3) x4) hC F22.1 F22.2.1 F22.2.2 c25
      refine g_aald C 26 34 5 2 dX6_goCycles_35 hC F22.1 F22.2.1 F22.2.2 c25 (by decide) oA_items ?_
      refine g_getf C (k := 7) (kd := 0) okX1 (by decide) kf_RX6_187 dX6_goCycles_36 (rg_ hC F26.1) F26.2.1 rfl ?_
      refine g_iload_n C (f := 3) dX6_goCycles_39 3 rfl ?_
      refine g_icmp_ne C 49 dX6_goCycles_40 rfl (fun c27 => ?_) (fun c27 => ?_)
      · replace h := if_f h c27
        refine g_sub [0, 1, 2, 3, 4] rfl rfl ?_
        exact tX6_goCycles_49 C hr hlk hC _ H_4 _ _ _ _ _ _ T0 T1 h
      · replace h := if_t h c27
        obtain ⟨y28, ey28, h⟩ := lt_e h
        refine g_iincx C (ls' := [(4, (0, y28)), (0, (2, x0)), (1, (2, x1)), (2, (0, x2)), (3, (0, x3))]) ey28 dX6_goCycles_43 4 rfl (by decide) (by decide) rfl ?_
        refine g_goto C 15 dX6_goCycles_46 rfl ?_
        refine g_sub [1, 2, 3, 4, 0] rfl rfl ?_
        exact H_15 _ _ _ _ _ _ T0 T1 h
theorem tX6_goCycles_4 (C : MC_ E p s m c cX6_goCycles 6 RX6) (hr : meth.sig.returnType = (some FieldType.int)) (hlk : meth.locks = false) (hC : Cl_ E.2.2.2.2.2 sz) {out : Int × V_} : ∀ (n : Nat) (x0 x1 x2 x3 : Int) (v : V_), (E.2.2.2.2.2 x0 ∧ ty_ x0 = 6 ∧ ln_ x0 = 0) → (E.2.2.2.2.2 x1 ∧ ty_ x1 = 10 ∧ ln_ x1 = 0) → fX6_goCycles_4 n x0 x1 x2 x3 v = some out → G_ E p l e (rm_ 3 69) s m args below meth c 6 sz (Q_ E below args s sz sz 0 out.1 out.2) 4 [(0, (2, x0)), (1, (2, x1)), (2, (0, x2)), (3, (0, x3))] [] v sz := by
  intro n
  induction n with
  | zero =>
    intro x0 x1 x2 x3 v T0 T1 h
    cases h
  | succ n H_4 =>
    intro x0 x1 x2 x3 v T0 T1 h
    rw [fX6_goCycles_4] at h
    refine g_iload_n C (f := 3) dX6_goCycles_4 3 rfl ?_
    refine g_aload_n C (f := 1) dX6_goCycles_5 1 rfl ?_
    refine g_getf C (k := 9) (kd := 0) okX10 (by decide) kf_RX6_170 dX6_goCycles_6 (rg_ hC T1.1) T1.2.1 rfl ?_
    refine g_icmp_ge C 152 dX6_goCycles_9 rfl (fun c1 => ?_) (fun c1 => ?_)
    · replace h := if_t h c1
      refine g_iconst C (n := (-1)) dX6_goCycles_152 (by decide) ?_
      cases h
      exact g_iret C dX6_goCycles_153 hr hlk
    · replace h := if_f h c1
      refine g_iload_n C (f := 2) dX6_goCycles_12 2 rfl ?_
      refine g_istore C (i := 4) (ls' := [(4, (0, x2)), (0, (2, x0)), (1, (2, x1)), (2, (0, x2)), (3, (0, x3))]) dX6_goCycles_13 (by decide) rfl ?_
      refine g_sub [1, 2, 3, 4, 0] rfl rfl ?_
      exact tX6_goCycles_15 C hr hlk hC _ H_4 _ _ _ _ _ _ _ T0 T1 h
end
theorem cX6_goCycles_ok (l : Launch) {E : En_} {sz : Int} (hC : Cl_ E.2.2.2.2.2 sz) {x0 x1 : Int} {v : V_} {out : Int × V_} (T0 : (E.2.2.2.2.2 x0 ∧ ty_ x0 = 6 ∧ ln_ x0 = 0)) (T1 : (E.2.2.2.2.2 x1 ∧ ty_ x1 = 10 ∧ ln_ x1 = 0)) (h : fX6_goCycles x0 x1 v = some out) : Met l yX6_goCycles [.code yX6_goCycles cX6_goCycles 6 (some FieldType.int)] (rm_ 3 69) (Pc_ E sz v [(2, x0), (2, x1)]) (Qc_ E sz 0 out.1 out.2) 0 0 (fun q => E.1 < q) := by
  refine met_G0 RX6 (by decide +kernel) rfl (Nat.le_of_ble_eq_true rfl) ?_
  intro p e s m args below meth c C hr hlk
  rw [fX6_goCycles] at h
  refine g_iconst C (n := 0) dX6_goCycles_0 (by decide) ?_
  refine g_istore_n C (f := 2) (ls' := [(2, (0, 0)), (0, (2, x0)), (1, (2, x1))]) dX6_goCycles_1 (by decide) rfl ?_
  refine g_iconst C (n := 0) dX6_goCycles_2 (by decide) ?_
  refine g_istore_n C (f := 3) (ls' := [(3, (0, 0)), (2, (0, 0)), (0, (2, x0)), (1, (2, x1))]) dX6_goCycles_3 (by decide) rfl ?_
  refine g_sub [2, 3, 1, 0] rfl rfl ?_
  exact tX6_goCycles_4 C hr hlk hC _ _ _ _ _ _ T0 T1 h
