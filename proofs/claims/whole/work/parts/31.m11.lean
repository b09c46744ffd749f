theorem dX6_begin_0 : decode cX6_begin 0 = .ok (.aload_n 0, 1) := by decide +kernel
theorem dX6_begin_1 : decode cX6_begin 1 = .ok (.getfield 9, 3) := by decide +kernel
theorem dX6_begin_4 : decode cX6_begin 4 = .ok (.iconst 0, 1) := by decide +kernel
theorem dX6_begin_5 : decode cX6_begin 5 = .ok (.invokestatic 68, 3) := by decide +kernel
theorem dX6_begin_8 : decode cX6_begin 8 = .ok (.iconst 0, 1) := by decide +kernel
theorem dX6_begin_9 : decode cX6_begin 9 = .ok (.istore_n 3, 1) := by decide +kernel
theorem dX6_begin_10 : decode cX6_begin 10 = .ok (.iload_n 3, 1) := by decide +kernel
theorem dX6_begin_11 : decode cX6_begin 11 = .ok (.bipush 6, 2) := by decide +kernel
theorem dX6_begin_13 : decode cX6_begin 13 = .ok (.if_icmp .ge 20, 3) := by decide +kernel
theorem dX6_begin_16 : decode cX6_begin 16 = .ok (.aload_n 0, 1) := by decide +kernel
theorem dX6_begin_17 : decode cX6_begin 17 = .ok (.getfield 9, 3) := by decide +kernel
theorem dX6_begin_20 : decode cX6_begin 20 = .ok (.iload_n 3, 1) := by decide +kernel
theorem dX6_begin_21 : decode cX6_begin 21 = .ok (.aload_n 2, 1) := by decide +kernel
theorem dX6_begin_22 : decode cX6_begin 22 = .ok (.iload_n 3, 1) := by decide +kernel
theorem dX6_begin_23 : decode cX6_begin 23 = .ok (.invokevirtual 74, 3) := by decide +kernel
theorem dX6_begin_26 : decode cX6_begin 26 = .ok (.iastore, 1) := by decide +kernel
theorem dX6_begin_27 : decode cX6_begin 27 = .ok (.iinc 3 1, 3) := by decide +kernel
theorem dX6_begin_30 : decode cX6_begin 30 = .ok (.goto (-20), 3) := by decide +kernel
theorem dX6_begin_33 : decode cX6_begin 33 = .ok (.iconst 0, 1) := by decide +kernel
theorem dX6_begin_34 : decode cX6_begin 34 = .ok (.istore_n 3, 1) := by decide +kernel
theorem dX6_begin_35 : decode cX6_begin 35 = .ok (.iload_n 3, 1) := by decide +kernel
theorem dX6_begin_36 : decode cX6_begin 36 = .ok (.bipush 8, 2) := by decide +kernel
theorem dX6_begin_38 : decode cX6_begin 38 = .ok (.if_icmp .ge 20, 3) := by decide +kernel
theorem dX6_begin_41 : decode cX6_begin 41 = .ok (.aload_n 0, 1) := by decide +kernel
theorem dX6_begin_42 : decode cX6_begin 42 = .ok (.getfield 15, 3) := by decide +kernel
theorem dX6_begin_45 : decode cX6_begin 45 = .ok (.iload_n 3, 1) := by decide +kernel
theorem dX6_begin_46 : decode cX6_begin 46 = .ok (.aload_n 2, 1) := by decide +kernel
theorem dX6_begin_47 : decode cX6_begin 47 = .ok (.iload_n 3, 1) := by decide +kernel
theorem dX6_begin_48 : decode cX6_begin 48 = .ok (.invokevirtual 80, 3) := by decide +kernel
theorem dX6_begin_51 : decode cX6_begin 51 = .ok (.iastore, 1) := by decide +kernel
theorem dX6_begin_52 : decode cX6_begin 52 = .ok (.iinc 3 1, 3) := by decide +kernel
theorem dX6_begin_55 : decode cX6_begin 55 = .ok (.goto (-20), 3) := by decide +kernel
theorem dX6_begin_58 : decode cX6_begin 58 = .ok (.aload_n 0, 1) := by decide +kernel
theorem dX6_begin_59 : decode cX6_begin 59 = .ok (.getfield 18, 3) := by decide +kernel
theorem dX6_begin_62 : decode cX6_begin 62 = .ok (.iconst 0, 1) := by decide +kernel
theorem dX6_begin_63 : decode cX6_begin 63 = .ok (.invokestatic 68, 3) := by decide +kernel
theorem dX6_begin_66 : decode cX6_begin 66 = .ok (.aload_n 0, 1) := by decide +kernel
theorem dX6_begin_67 : decode cX6_begin 67 = .ok (.getfield 21, 3) := by decide +kernel
theorem dX6_begin_70 : decode cX6_begin 70 = .ok (.iconst 0, 1) := by decide +kernel
theorem dX6_begin_71 : decode cX6_begin 71 = .ok (.invokestatic 68, 3) := by decide +kernel
theorem dX6_begin_74 : decode cX6_begin 74 = .ok (.aload_n 0, 1) := by decide +kernel
theorem dX6_begin_75 : decode cX6_begin 75 = .ok (.iconst 0, 1) := by decide +kernel
theorem dX6_begin_76 : decode cX6_begin 76 = .ok (.putfield 65, 3) := by decide +kernel
theorem dX6_begin_79 : decode cX6_begin 79 = .ok (.aload_n 0, 1) := by decide +kernel
theorem dX6_begin_80 : decode cX6_begin 80 = .ok (.iconst 0, 1) := by decide +kernel
theorem dX6_begin_81 : decode cX6_begin 81 = .ok (.putfield 62, 3) := by decide +kernel
theorem dX6_begin_84 : decode cX6_begin 84 = .ok (.aload_n 0, 1) := by decide +kernel
theorem dX6_begin_85 : decode cX6_begin 85 = .ok (.iconst 0, 1) := by decide +kernel
theorem dX6_begin_86 : decode cX6_begin 86 = .ok (.putfield 44, 3) := by decide +kernel
theorem dX6_begin_89 : decode cX6_begin 89 = .ok (.aload_n 0, 1) := by decide +kernel
theorem dX6_begin_90 : decode cX6_begin 90 = .ok (.iconst 0, 1) := by decide +kernel
theorem dX6_begin_91 : decode cX6_begin 91 = .ok (.putfield 83, 3) := by decide +kernel
theorem dX6_begin_94 : decode cX6_begin 94 = .ok (.aload_n 0, 1) := by decide +kernel
theorem dX6_begin_95 : decode cX6_begin 95 = .ok (.iconst 0, 1) := by decide +kernel
theorem dX6_begin_96 : decode cX6_begin 96 = .ok (.putfield 86, 3) := by decide +kernel
theorem dX6_begin_99 : decode cX6_begin 99 = .ok (.aload_n 0, 1) := by decide +kernel
theorem dX6_begin_100 : decode cX6_begin 100 = .ok (.aload_n 1, 1) := by decide +kernel
theorem dX6_begin_101 : decode cX6_begin 101 = .ok (.getfield 89, 3) := by decide +kernel
theorem dX6_begin_104 : decode cX6_begin 104 = .ok (.ifCond .le 7, 3) := by decide +kernel
theorem dX6_begin_107 : decode cX6_begin 107 = .ok (.iconst 0, 1) := by decide +kernel
theorem dX6_begin_108 : decode cX6_begin 108 = .ok (.goto 4, 3) := by decide +kernel
theorem dX6_begin_111 : decode cX6_begin 111 = .ok (.iconst (-1), 1) := by decide +kernel
theorem dX6_begin_112 : decode cX6_begin 112 = .ok (.putfield 34, 3) := by decide +kernel
theorem dX6_begin_115 : decode cX6_begin 115 = .ok (.return_, 1) := by decide +kernel
def fX6_begin_35 : Nat → Int → Int → Int → Int → V_ → Option (Int × V_)
  | 0, _, _, _, _, _ => none
  | n + 1, x0, x1, x2, x3, v =>
    if 8 ≤ x3 then (
      lt_ (fl_ v (x0 + 3) 8 0) fun v6 =>
      lt_ (fl_ v6 (x0 + 4) 16 0) fun v8 =>
      lt_ (up_ v8 x0 4 0) fun v9 =>
      lt_ (up_ v9 x0 5 0) fun v10 =>
      lt_ (up_ v10 x0 6 0) fun v11 =>
      lt_ (up_ v11 x0 7 0) fun v12 =>
      lt_ (up_ v12 x0 8 0) fun v13 =>
      if (v13 x1 0) ≤ 0 then (
        lt_ (up_ v13 x0 9 (-1)) fun v15 =>
        some (0, v15))
      else (
        lt_ (up_ v13 x0 9 0) fun v16 =>
        some (0, v16)))
    else (
      bd_ (fX7_cellAt x2 x3 v) fun q18 =>
      ck_ (0 ≤ x3 ∧ x3 < 8) (
      lt_ (up_ q18.2 (x0 + 2) x3 q18.1) fun v20 =>
      lt_ (wr_ (x3 + 1)) fun y21 =>
      (fX6_begin_35 n) x0 x1 x2 y21 v20))
def fX6_begin_10 : Nat → Int → Int → Int → Int → V_ → Option (Int × V_)
  | 0, _, _, _, _, _ => none
  | n + 1, x0, x1, x2, x3, v =>
    if 6 ≤ x3 then (
      fX6_begin_35 fu_ x0 x1 x2 0 v)
    else (
      bd_ (fX7_register x2 x3 v) fun q23 =>
      ck_ (0 ≤ x3 ∧ x3 < 12) (
      lt_ (up_ q23.2 (x0 + 1) x3 q23.1) fun v25 =>
      lt_ (wr_ (x3 + 1)) fun y26 =>
      (fX6_begin_10 n) x0 x1 x2 y26 v25))
def fX6_begin (x0 x1 x2 : Int) (v : V_) : Option (Int × V_) :=
  lt_ (fl_ v (x0 + 1) 12 0) fun v2 =>
  fX6_begin_10 fu_ x0 x1 x2 0 v2
section
variable {E : En_} {p : Program} {l : Launch} {e : Env} {s : State} {m : MethodId} {args : Array Value} {below : List Frame} {meth : Method} {c : Code} {sz : Int}
theorem tX6_begin_35 (C : MC_ E p s m c cX6_begin 4 RX6) (hr : meth.sig.returnType = (none : Option FieldType)) (hlk : meth.locks = false) (hC : Cl_ E.2.2.2.2.2 sz) {out : Int × V_} : ∀ (n : Nat) (x0 x1 x2 x3 : Int) (v : V_), (E.2.2.2.2.2 x0 ∧ ty_ x0 = 6 ∧ ln_ x0 = 0) → (E.2.2.2.2.2 x1 ∧ ty_ x1 = 5 ∧ ln_ x1 = 0) → (E.2.2.2.2.2 x2 ∧ ty_ x2 = 7 ∧ ln_ x2 = 0) → fX6_begin_35 n x0 x1 x2 x3 v = some out → G_ E p l e (rm_ 1 23) s m args below meth c 4 sz (Q_ E below args s sz sz 9 out.1 out.2) 35 [(0, (2, x0)), (1, (2, x1)), (2, (2, x2)), (3, (0, x3))] [] v sz := by
  intro n
  induction n with
  | zero =>
    intro x0 x1 x2 x3 v T0 T1 T2 h
    cases h
  | succ n H_35 =>
    intro x0 x1 x2 x3 v T0 T1 T2 h
    rw [fX6_begin_35] at h
    refine g_iload_n C (f := 3) dX6_begin_35 3 rfl ?_
    refine g_bipush C (n := 8) dX6_begin_36 (by decide) ?_
    refine g_icmp_ge C 58 dX6_begin_38 rfl (fun c4 => ?_) (fun c4 => ?_)
    · replace h := if_t h c4
      refine g_aload_n C (f := 0) dX6_begin_58 0 rfl ?_
      have F5 := fX6_2 hC T0.1 T0.2.1
      refine g_getR C (k := 2) (o := 3) okX6 (by decide) kf_RX6_18 dX6_begin_59 hC T0.1 T0.2.1 rfl rfl ?_
      refine g_iconst C (n := 0) dX6_begin_62 (by decide) ?_
      obtain ⟨v6, ev6, h⟩ := lt_e h
      refine g_cS C [(2, x0 + 3), (0, 0)] (c_fillI l (rg_ hC F5.1) F5.2.1 F5.2.2 (by decide)) km_RX6_68 cs_FillI rfl (by decide) rfl rfl (Nat.le_of_ble_eq_true rfl) dX6_begin_63 ?_
      refine g_setv C ev6 ?_
      refine g_aload_n C (f := 0) dX6_begin_66 0 rfl ?_
      have F7 := fX6_3 hC T0.1 T0.2.1
      refine g_getR C (k := 3) (o := 4) okX6 (by decide) kf_RX6_21 dX6_begin_67 hC T0.1 T0.2.1 rfl rfl ?_
      refine g_iconst C (n := 0) dX6_begin_70 (by decide) ?_
      obtain ⟨v8, ev8, h⟩ := lt_e h
      refine g_cS C [(2, x0 + 4), (0, 0)] (c_fillI l (rg_ hC F7.1) F7.2.1 F7.2.2 (by decide)) km_RX6_68 cs_FillI rfl (by decide) rfl rfl (Nat.le_of_ble_eq_true rfl) dX6_begin_71 ?_
      refine g_setv C ev8 ?_
      refine g_aload_n C (f := 0) dX6_begin_74 0 rfl ?_
      refine g_iconst C (n := 0) dX6_begin_75 (by decide) ?_
      obtain ⟨v9, ev9, h⟩ := lt_e h
      refine g_putf C (k := 4) (kd := 0) okX6 (by decide) kf_RX6_65 dX6_begin_76 (rg_ hC T0.1) T0.2.1 rfl rfl nvI (Or.inl rfl) v9 ev9 ?_
      refine g_aload_n C (f := 0) dX6_begin_79 0 rfl ?_
      refine g_iconst C (n := 0) dX6_begin_80 (by decide) ?_
      obtain ⟨v10, ev10, h⟩ := lt_e h
      refine g_putf C (k := 5) (kd := 0) okX6 (by decide) kf_RX6_62 dX6_begin_81 (rg_ hC T0.1) T0.2.1 rfl rfl nvI (Or.inl rfl) v10 ev10 ?_
      refine g_aload_n C (f := 0) dX6_begin_84 0 rfl ?_
      refine g_iconst C (n := 0) dX6_begin_85 (by decide) ?_
      obtain ⟨v11, ev11, h⟩ := lt_e h
      refine g_putf C (k := 6) (kd := 0) okX6 (by decide) kf_RX6_44 dX6_begin_86 (rg_ hC T0.1) T0.2.1 rfl rfl nvI (Or.inl rfl) v11 ev11 ?_
      refine g_aload_n C (f := 0) dX6_begin_89 0 rfl ?_
      refine g_iconst C (n := 0) dX6_begin_90 (by decide) ?_
      obtain ⟨v12, ev12, h⟩ := lt_e h
      refine g_putf C (k := 7) (kd := 0) okX6 (by decide) kf_RX6_83 dX6_begin_91 (rg_ hC T0.1) T0.2.1 rfl rfl nvI (Or.inl rfl) v12 ev12 ?_
      refine g_aload_n C (f := 0) dX6_begin_94 0 rfl ?_
      refine g_iconst C (n := 0) dX6_begin_95 (by decide) ?_
      obtain ⟨v13, ev13, h⟩ := lt_e h
      refine g_putf C (k := 8) (kd := 0) okX6 (by decide) kf_RX6_86 dX6_begin_96 (rg_ hC T0.1) T0.2.1 rfl rfl nvI (Or.inl rfl) v13 ev13 ?_
      refine g_aload_n C (f := 0) dX6_begin_99 0 rfl ?_
      refine g_aload_n C (f := 1) dX6_begin_100 1 rfl ?_
      refine g_getf C (k := 0) (kd := 0) okX5 (by decide) kf_RX6_89 dX6_begin_101 (rg_ hC T1.1) T1.2.1 rfl ?_
      refine g_if_le C 111 dX6_begin_104 rfl (fun c14 => ?_) (fun c14 => ?_)
      · replace h := if_t h c14
        refine g_iconst C (n := (-1)) dX6_begin_111 (by decide) ?_
        obtain ⟨v15, ev15, h⟩ := lt_e h
        refine g_putf C (k := 9) (kd := 0) okX6 (by decide) kf_RX6_34 dX6_begin_112 (rg_ hC T0.1) T0.2.1 rfl rfl nvI (Or.inl rfl) v15 ev15 ?_
        cases h
        exact g_vret C dX6_begin_115 hr hlk
      · replace h := if_f h c14
        refine g_iconst C (n := 0) dX6_begin_107 (by decide) ?_
        refine g_goto C 112 dX6_begin_108 rfl ?_
        obtain ⟨v16, ev16, h⟩ := lt_e h
        refine g_putf C (k := 9) (kd := 0) okX6 (by decide) kf_RX6_34 dX6_begin_112 (rg_ hC T0.1) T0.2.1 rfl rfl nvI (Or.inl rfl) v16 ev16 ?_
        cases h
        exact g_vret C dX6_begin_115 hr hlk
    · replace h := if_f h c4
      refine g_aload_n C (f := 0) dX6_begin_41 0 rfl ?_
      have F17 := fX6_1 hC T0.1 T0.2.1
      refine g_getR C (k := 1) (o := 2) okX6 (by decide) kf_RX6_15 dX6_begin_42 hC T0.1 T0.2.1 rfl rfl ?_
      refine g_iload_n C (f := 3) dX6_begin_45 3 rfl ?_
      refine g_aload_n C (f := 2) dX6_begin_46 2 rfl ?_
      refine g_iload_n C (f := 3) dX6_begin_47 3 rfl ?_
      obtain ⟨q18, eq18, h⟩ := bd_e h
      refine g_cV C [(0, x3)] (cX7_cellAt_ok l hC T2 eq18) okX7 T2.2.1 (rg_ hC T2.1) km_RX6_80 cv_X7_cellAt rfl (by decide) rfl rfl (Nat.le_of_ble_eq_true rfl) dX6_begin_48 ?_
      obtain ⟨c19, h⟩ := ck_e h
      obtain ⟨v20, ev20, h⟩ := lt_e h
      refine g_iast C 8 dX6_begin_51 (rg_ hC F17.1) F17.2.1 F17.2.2 c19 v20 ev20 ?_
      obtain ⟨y21, ey21, h⟩ := lt_e h
      refine g_iincx C (ls' := [(3, (0, y21)), (0, (2, x0)), (1, (2, x1)), (2, (2, x2))]) ey21 dX6_begin_52 3 rfl (by decide) (by decide) rfl ?_
      refine g_goto C 35 dX6_begin_55 rfl ?_
      refine g_sub [1, 2, 3, 0] rfl rfl ?_
      exact H_35 _ _ _ _ _ T0 T1 T2 h
theorem tX6_begin_10 (C : MC_ E p s m c cX6_begin 4 RX6) (hr : meth.sig.returnType = (none : Option FieldType)) (hlk : meth.locks = false) (hC : Cl_ E.2.2.2.2.2 sz) {out : Int × V_} : ∀ (n : Nat) (x0 x1 x2 x3 : Int) (v : V_), (E.2.2.2.2.2 x0 ∧ ty_ x0 = 6 ∧ ln_ x0 = 0) → (E.2.2.2.2.2 x1 ∧ ty_ x1 = 5 ∧ ln_ x1 = 0) → (E.2.2.2.2.2 x2 ∧ ty_ x2 = 7 ∧ ln_ x2 = 0) → fX6_begin_10 n x0 x1 x2 x3 v = some out → G_ E p l e (rm_ 1 23) s m args below meth c 4 sz (Q_ E below args s sz sz 9 out.1 out.2) 10 [(0, (2, x0)), (1, (2, x1)), (2, (2, x2)), (3, (0, x3))] [] v sz := by
  intro n
  induction n with
  | zero =>
    intro x0 x1 x2 x3 v T0 T1 T2 h
    cases h
  | succ n H_10 =>
    intro x0 x1 x2 x3 v T0 T1 T2 h
    rw [fX6_begin_10] at h
    refine g_iload_n C (f := 3) dX6_begin_10 3 rfl ?_
    refine g_bipush C (n := 6) dX6_begin_11 (by decide) ?_
    refine g_icmp_ge C 33 dX6_begin_13 rfl (fun c3 => ?_) (fun c3 => ?_)
    · replace h := if_t h c3
      refine g_iconst C (n := 0) dX6_begin_33 (by decide) ?_
      refine g_istore_n C (f := 3) (ls' := [(3, (0, 0)), (0, (2, x0)), (1, (2, x1)), (2, (2, x2))]) dX6_begin_34 (by decide) rfl ?_
      refine g_sub [1, 2, 3, 0] rfl rfl ?_
      exact tX6_begin_35 C hr hlk hC _ _ _ _ _ _ T0 T1 T2 h
    · replace h := if_f h c3
      refine g_aload_n C (f := 0) dX6_begin_16 0 rfl ?_
      have F22 := fX6_0 hC T0.1 T0.2.1
      refine g_getR C (k := 0) (o := 1) okX6 (by decide) kf_RX6_9 dX6_begin_17 hC T0.1 T0.2.1 rfl rfl ?_
      refine g_iload_n C (f := 3) dX6_begin_20 3 rfl ?_
      refine g_aload_n C (f := 2) dX6_begin_21 2 rfl ?_
      refine g_iload_n C (f := 3) dX6_begin_22 3 rfl ?_
      obtain ⟨q23, eq23, h⟩ := bd_e h
      refine g_cV C [(0, x3)] (cX7_register_ok l hC T2 eq23) okX7 T2.2.1 (rg_ hC T2.1) km_RX6_74 cv_X7_register rfl (by decide) rfl rfl (Nat.le_of_ble_eq_true rfl) dX6_begin_23 ?_
      obtain ⟨c24, h⟩ := ck_e h
      obtain ⟨v25, ev25, h⟩ := lt_e h
      refine g_iast C 12 dX6_begin_26 (rg_ hC F22.1) F22.2.1 F22.2.2 c24 v25 ev25 ?_
      obtain ⟨y26, ey26, h⟩ := lt_e h
      refine g_iincx C (ls' := [(3, (0, y26)), (0, (2, x0)), (1, (2, x1)), (2, (2, x2))]) ey26 dX6_begin_27 3 rfl (by decide) (by decide) rfl ?_
      refine g_goto C 10 dX6_begin_30 rfl ?_
      refine g_sub [1, 2, 3, 0] rfl rfl ?_
      exact H_10 _ _ _ _ _ T0 T1 T2 h
end
theorem cX6_begin_ok (l : Launch) {E : En_} {sz : Int} (hC : Cl_ E.2.2.2.2.2 sz) {x0 x1 x2 : Int} {v : V_} {out : Int × V_} (T0 : (E.2.2.2.2.2 x0 ∧ ty_ x0 = 6 ∧ ln_ x0 = 0)) (T1 : (E.2.2.2.2.2 x1 ∧ ty_ x1 = 5 ∧ ln_ x1 = 0)) (T2 : (E.2.2.2.2.2 x2 ∧ ty_ x2 = 7 ∧ ln_ x2 = 0)) (h : fX6_begin x0 x1 x2 v = some out) : Met l yX6_begin [.code yX6_begin cX6_begin 4 (none : Option FieldType)] (rm_ 1 23) (Pc_ E sz v [(2, x0), (2, x1), (2, x2)]) (Qc_ E sz 9 out.1 out.2) 0 0 (fun q => E.1 < q) := by
  refine met_G0 RX6 (by decide +kernel) rfl (Nat.le_of_ble_eq_true rfl) ?_
  intro p e s m args below meth c C hr hlk
  rw [fX6_begin] at h
  refine g_aload_n C (f := 0) dX6_begin_0 0 rfl ?_
  have F1 := fX6_0 hC T0.1 T0.2.1
  refine g_getR C (k := 0) (o := 1) okX6 (by decide) kf_RX6_9 dX6_begin_1 hC T0.1 T0.2.1 rfl rfl ?_
  refine g_iconst C (n := 0) dX6_begin_4 (by decide) ?_
  obtain ⟨v2, ev2, h⟩ := lt_e h
  refine g_cS C [(2, x0 + 1), (0, 0)] (c_fillI l (rg_ hC F1.1) F1.2.1 F1.2.2 (by decide)) km_RX6_68 cs_FillI rfl (by decide) rfl rfl (Nat.le_of_ble_eq_true rfl) dX6_begin_5 ?_
  refine g_setv C ev2 ?_
  refine g_iconst C (n := 0) dX6_begin_8 (by decide) ?_
  refine g_istore_n C (f := 3) (ls' := [(3, (0, 0)), (0, (2, x0)), (1, (2, x1)), (2, (2, x2))]) dX6_begin_9 (by decide) rfl ?_
  refine g_sub [1, 2, 3, 0] rfl rfl ?_
  exact tX6_begin_10 C hr hlk hC _ _ _ _ _ _ T0 T1 T2 h
theorem dX6_blocksTo_0 : decode cX6_blocksTo 0 = .ok (.iconst 0, 1) := by decide +kernel
theorem dX6_blocksTo_1 : decode cX6_blocksTo 1 = .ok (.istore_n 2, 1) := by decide +kernel
theorem dX6_blocksTo_2 : decode cX6_blocksTo 2 = .ok (.iconst 0, 1) := by decide +kernel
theorem dX6_blocksTo_3 : decode cX6_blocksTo 3 = .ok (.istore_n 3, 1) := by decide +kernel
theorem dX6_blocksTo_4 : decode cX6_blocksTo 4 = .ok (.iload_n 3, 1) := by decide +kernel
theorem dX6_blocksTo_5 : decode cX6_blocksTo 5 = .ok (.aload_n 0, 1) := by decide +kernel
theorem dX6_blocksTo_6 : decode cX6_blocksTo 6 = .ok (.getfield 53, 3) := by decide +kernel
theorem dX6_blocksTo_9 : decode cX6_blocksTo 9 = .ok (.if_icmp .ge 23, 3) := by decide +kernel
theorem dX6_blocksTo_12 : decode cX6_blocksTo 12 = .ok (.aload_n 0, 1) := by decide +kernel
theorem dX6_blocksTo_13 : decode cX6_blocksTo 13 = .ok (.getfield 179, 3) := by decide +kernel
theorem dX6_blocksTo_16 : decode cX6_blocksTo 16 = .ok (.iload_n 3, 1) := by decide +kernel
theorem dX6_blocksTo_17 : decode cX6_blocksTo 17 = .ok (.iaload, 1) := by decide +kernel
theorem dX6_blocksTo_18 : decode cX6_blocksTo 18 = .ok (.iload_n 1, 1) := by decide +kernel
theorem dX6_blocksTo_19 : decode cX6_blocksTo 19 = .ok (.if_icmp .ne 7, 3) := by decide +kernel
theorem dX6_blocksTo_22 : decode cX6_blocksTo 22 = .ok (.iload_n 3, 1) := by decide +kernel
theorem dX6_blocksTo_23 : decode cX6_blocksTo 23 = .ok (.iconst 1, 1) := by decide +kernel
theorem dX6_blocksTo_24 : decode cX6_blocksTo 24 = .ok (.iadd, 1) := by decide +kernel
theorem dX6_blocksTo_25 : decode cX6_blocksTo 25 = .ok (.istore_n 2, 1) := by decide +kernel
theorem dX6_blocksTo_26 : decode cX6_blocksTo 26 = .ok (.iinc 3 1, 3) := by decide +kernel
theorem dX6_blocksTo_29 : decode cX6_blocksTo 29 = .ok (.goto (-25), 3) := by decide +kernel
theorem dX6_blocksTo_32 : decode cX6_blocksTo 32 = .ok (.iload_n 2, 1) := by decide +kernel
theorem dX6_blocksTo_33 : decode cX6_blocksTo 33 = .ok (.ireturn, 1) := by decide +kernel
def fX6_blocksTo_4 : Nat → Int → Int → Int → Int → V_ → Option (Int × V_)
  | 0, _, _, _, _, _ => none
  | n + 1, x0, x1, x2, x3, v =>
    if (v x0 1) ≤ x3 then (
      some (x2, v))
    else (
      ck_ (0 ≤ x3 ∧ x3 < 4) (
      if (v (x0 + 1) x3) = x1 then (
        lt_ (wr_ (x3 + 1)) fun y6 =>
        lt_ (wr_ (x3 + 1)) fun y7 =>
        (fX6_blocksTo_4 n) x0 x1 y6 y7 v)
      else (
        lt_ (wr_ (x3 + 1)) fun y5 =>
        (fX6_blocksTo_4 n) x0 x1 x2 y5 v)))
def fX6_blocksTo (x0 x1 : Int) (v : V_) : Option (Int × V_) :=
  fX6_blocksTo_4 fu_ x0 x1 0 0 v
section
variable {E : En_} {p : Program} {l : Launch} {e : Env} {s : State} {m : MethodId} {args : Array Value} {below : List Frame} {meth : Method} {c : Code} {sz : Int}
theorem tX6_blocksTo_4 (C : MC_ E p s m c cX6_blocksTo 4 RX6) (hr : meth.sig.returnType = (some FieldType.int)) (hlk : meth.locks = false) (hC : Cl_ E.2.2.2.2.2 sz) {out : Int × V_} : ∀ (n : Nat) (x0 x1 x2 x3 : Int) (v : V_), (E.2.2.2.2.2 x0 ∧ ty_ x0 = 10 ∧ ln_ x0 = 0) → fX6_blocksTo_4 n x0 x1 x2 x3 v = some out → G_ E p l e (rm_ 0 0) s m args below meth c 4 sz (Q_ E below args s sz sz 0 out.1 out.2) 4 [(0, (2, x0)), (1, (0, x1)), (2, (0, x2)), (3, (0, x3))] [] v sz := by
  intro n
  induction n with
  | zero =>
    intro x0 x1 x2 x3 v T0 h
    cases h
  | succ n H_4 =>
    intro x0 x1 x2 x3 v T0 h
    rw [fX6_blocksTo_4] at h
    refine g_iload_n C (f := 3) dX6_blocksTo_4 3 rfl ?_
    refine g_aload_n C (f := 0) dX6_blocksTo_5 0 rfl ?_
    refine g_getf C (k := 1) (kd := 0) okX10 (by decide) kf_RX6_53 dX6_blocksTo_6 (rg_ hC T0.1) T0.2.1 rfl ?_
    refine g_icmp_ge C 32 dX6_blocksTo_9 rfl (fun c1 => ?_) (fun c1 => ?_)
    · replace h := if_t h c1
      refine g_iload_n C (f := 2) dX6_blocksTo_32 2 rfl ?_
      cases h
      exact g_iret C dX6_blocksTo_33 hr hlk
    · replace h := if_f h c1
      refine g_aload_n C (f := 0) dX6_blocksTo_12 0 rfl ?_
      have F2 := fX10_0 hC T0.1 T0.2.1
      refine g_getR C (k := 0) (o := 1) okX10 (by decide) kf_RX6_179 dX6_blocksTo_13 hC T0.1 T0.2.1 rfl rfl ?_
      refine g_iload_n C (f := 3) dX6_blocksTo_16 3 rfl ?_
      obtain ⟨c3, h⟩ := ck_e h
      refine g_iald C 4 dX6_blocksTo_17 (rg_ hC F2.1) F2.2.1 F2.2.2 c3 ?_
      refine g_iload_n C (f := 1) dX6_blocksTo_18 1 rfl ?_
      refine g_icmp_ne C 26 dX6_blocksTo_19 rfl (fun c4 => ?_) (fun c4 => ?_)
      · replace h := if_f h c4
        obtain ⟨y5, ey5, h⟩ := lt_e h
        refine g_iincx C (ls' := [(3, (0, y5)), (0, (2, x0)), (1, (0, x1)), (2, (0, x2))]) ey5 dX6_blocksTo_26 3 rfl (by decide) (by decide) rfl ?_
        refine g_goto C 4 dX6_blocksTo_29 rfl ?_
        refine g_sub [1, 2, 3, 0] rfl rfl ?_
        exact H_4 _ _ _ _ _ T0 h
      · replace h := if_t h c4
        refine g_iload_n C (f := 3) dX6_blocksTo_22 3 rfl ?_
        refine g_iconst C (n := 1) dX6_blocksTo_23 (by decide) ?_
        refine g_iadd C dX6_blocksTo_24 ?_
        obtain ⟨y6, ey6, h⟩ := lt_e h
        refine g_set C ey6 ?_
        refine g_istore_n C (f := 2) (ls' := [(2, (0, y6)), (0, (2, x0)), (1, (0, x1)), (3, (0, x3))]) dX6_blocksTo_25 (by decide) rfl ?_
        obtain ⟨y7, ey7, h⟩ := lt_e h
        refine g_iincx C (ls' := [(3, (0, y7)), (2, (0, y6)), (0, (2, x0)), (1, (0, x1))]) ey7 dX6_blocksTo_26 3 rfl (by decide) (by decide) rfl ?_
        refine g_goto C 4 dX6_blocksTo_29 rfl ?_
        refine g_sub [2, 3, 1, 0] rfl rfl ?_
        exact H_4 _ _ _ _ _ T0 h
end
theorem cX6_blocksTo_ok (l : Launch) {E : En_} {sz : Int} (hC : Cl_ E.2.2.2.2.2 sz) {x0 x1 : Int} {v : V_} {out : Int × V_} (T0 : (E.2.2.2.2.2 x0 ∧ ty_ x0 = 10 ∧ ln_ x0 = 0)) (h : fX6_blocksTo x0 x1 v = some out) : Met l yX6_blocksTo [.code yX6_blocksTo cX6_blocksTo 4 (some FieldType.int)] (rm_ 0 0) (Pc_ E sz v [(2, x0), (0, x1)]) (Qc_ E sz 0 out.1 out.2) 0 0 (fun q => E.1 < q) := by
  refine met_G0 RX6 (by decide +kernel) rfl (Nat.le_of_ble_eq_true rfl) ?_
  intro p e s m args below meth c C hr hlk
  rw [fX6_blocksTo] at h
  refine g_iconst C (n := 0) dX6_blocksTo_0 (by decide) ?_
  refine g_istore_n C (f := 2) (ls' := [(2, (0, 0)), (0, (2, x0)), (1, (0, x1))]) dX6_blocksTo_1 (by decide) rfl ?_
  refine g_iconst C (n := 0) dX6_blocksTo_2 (by decide) ?_
  refine g_istore_n C (f := 3) (ls' := [(3, (0, 0)), (2, (0, 0)), (0, (2, x0)), (1, (0, x1))]) dX6_blocksTo_3 (by decide) rfl ?_
  refine g_sub [2, 3, 1, 0] rfl rfl ?_
  exact tX6_blocksTo_4 C hr hlk hC _ _ _ _ _ _ T0 h
theorem dX6_comesToWhat_0 : decode cX6_comesToWhat 0 = .ok (.aload_n 0, 1) := by decide +kernel
theorem dX6_comesToWhat_1 : decode cX6_comesToWhat 1 = .ok (.getfield 65, 3) := by decide +kernel
theorem dX6_comesToWhat_4 : decode cX6_comesToWhat 4 = .ok (.aload_n 1, 1) := by decide +kernel
theorem dX6_comesToWhat_5 : decode cX6_comesToWhat 5 = .ok (.getfield 65, 3) := by decide +kernel
theorem dX6_comesToWhat_8 : decode cX6_comesToWhat 8 = .ok (.if_icmp .ne 7, 3) := by decide +kernel
theorem dX6_comesToWhat_11 : decode cX6_comesToWhat 11 = .ok (.iconst 1, 1) := by decide +kernel
theorem dX6_comesToWhat_12 : decode cX6_comesToWhat 12 = .ok (.goto 4, 3) := by decide +kernel
theorem dX6_comesToWhat_15 : decode cX6_comesToWhat 15 = .ok (.iconst 0, 1) := by decide +kernel
theorem dX6_comesToWhat_16 : decode cX6_comesToWhat 16 = .ok (.istore_n 2, 1) := by decide +kernel
theorem dX6_comesToWhat_17 : decode cX6_comesToWhat 17 = .ok (.iconst 0, 1) := by decide +kernel
theorem dX6_comesToWhat_18 : decode cX6_comesToWhat 18 = .ok (.istore_n 3, 1) := by decide +kernel
theorem dX6_comesToWhat_19 : decode cX6_comesToWhat 19 = .ok (.iload_n 3, 1) := by decide +kernel
theorem dX6_comesToWhat_20 : decode cX6_comesToWhat 20 = .ok (.bipush 6, 2) := by decide +kernel
theorem dX6_comesToWhat_22 : decode cX6_comesToWhat 22 = .ok (.if_icmp .ge 41, 3) := by decide +kernel
theorem dX6_comesToWhat_25 : decode cX6_comesToWhat 25 = .ok (.aload_n 0, 1) := by decide +kernel
theorem dX6_comesToWhat_26 : decode cX6_comesToWhat 26 = .ok (.getfield 65, 3) := by decide +kernel
theorem dX6_comesToWhat_29 : decode cX6_comesToWhat 29 = .ok (.ifCond .ne 34, 3) := by decide +kernel
theorem dX6_comesToWhat_32 : decode cX6_comesToWhat 32 = .ok (.iload_n 2, 1) := by decide +kernel
theorem dX6_comesToWhat_33 : decode cX6_comesToWhat 33 = .ok (.ifCond .eq 22, 3) := by decide +kernel
theorem dX6_comesToWhat_36 : decode cX6_comesToWhat 36 = .ok (.aload_n 0, 1) := by decide +kernel
theorem dX6_comesToWhat_37 : decode cX6_comesToWhat 37 = .ok (.getfield 9, 3) := by decide +kernel
theorem dX6_comesToWhat_40 : decode cX6_comesToWhat 40 = .ok (.iload_n 3, 1) := by decide +kernel
theorem dX6_comesToWhat_41 : decode cX6_comesToWhat 41 = .ok (.iaload, 1) := by decide +kernel
theorem dX6_comesToWhat_42 : decode cX6_comesToWhat 42 = .ok (.aload_n 1, 1) := by decide +kernel
theorem dX6_comesToWhat_43 : decode cX6_comesToWhat 43 = .ok (.getfield 9, 3) := by decide +kernel
theorem dX6_comesToWhat_46 : decode cX6_comesToWhat 46 = .ok (.iload_n 3, 1) := by decide +kernel
theorem dX6_comesToWhat_47 : decode cX6_comesToWhat 47 = .ok (.iaload, 1) := by decide +kernel
theorem dX6_comesToWhat_48 : decode cX6_comesToWhat 48 = .ok (.if_icmp .ne 7, 3) := by decide +kernel
theorem dX6_comesToWhat_51 : decode cX6_comesToWhat 51 = .ok (.iconst 1, 1) := by decide +kernel
theorem dX6_comesToWhat_52 : decode cX6_comesToWhat 52 = .ok (.goto 4, 3) := by decide +kernel
theorem dX6_comesToWhat_55 : decode cX6_comesToWhat 55 = .ok (.iconst 0, 1) := by decide +kernel
theorem dX6_comesToWhat_56 : decode cX6_comesToWhat 56 = .ok (.istore_n 2, 1) := by decide +kernel
theorem dX6_comesToWhat_57 : decode cX6_comesToWhat 57 = .ok (.iinc 3 1, 3) := by decide +kernel
theorem dX6_comesToWhat_60 : decode cX6_comesToWhat 60 = .ok (.goto (-41), 3) := by decide +kernel
theorem dX6_comesToWhat_63 : decode cX6_comesToWhat 63 = .ok (.iconst 0, 1) := by decide +kernel
theorem dX6_comesToWhat_64 : decode cX6_comesToWhat 64 = .ok (.istore_n 3, 1) := by decide +kernel
theorem dX6_comesToWhat_65 : decode cX6_comesToWhat 65 = .ok (.iload_n 3, 1) := by decide +kernel
theorem dX6_comesToWhat_66 : decode cX6_comesToWhat 66 = .ok (.bipush 8, 2) := by decide +kernel
theorem dX6_comesToWhat_68 : decode cX6_comesToWhat 68 = .ok (.if_icmp .ge 41, 3) := by decide +kernel
theorem dX6_comesToWhat_71 : decode cX6_comesToWhat 71 = .ok (.aload_n 0, 1) := by decide +kernel
theorem dX6_comesToWhat_72 : decode cX6_comesToWhat 72 = .ok (.getfield 65, 3) := by decide +kernel
theorem dX6_comesToWhat_75 : decode cX6_comesToWhat 75 = .ok (.ifCond .ne 34, 3) := by decide +kernel
theorem dX6_comesToWhat_78 : decode cX6_comesToWhat 78 = .ok (.iload_n 2, 1) := by decide +kernel
theorem dX6_comesToWhat_79 : decode cX6_comesToWhat 79 = .ok (.ifCond .eq 22, 3) := by decide +kernel
theorem dX6_comesToWhat_82 : decode cX6_comesToWhat 82 = .ok (.aload_n 0, 1) := by decide +kernel
theorem dX6_comesToWhat_83 : decode cX6_comesToWhat 83 = .ok (.getfield 15, 3) := by decide +kernel
theorem dX6_comesToWhat_86 : decode cX6_comesToWhat 86 = .ok (.iload_n 3, 1) := by decide +kernel
theorem dX6_comesToWhat_87 : decode cX6_comesToWhat 87 = .ok (.iaload, 1) := by decide +kernel
theorem dX6_comesToWhat_88 : decode cX6_comesToWhat 88 = .ok (.aload_n 1, 1) := by decide +kernel
theorem dX6_comesToWhat_89 : decode cX6_comesToWhat 89 = .ok (.getfield 15, 3) := by decide +kernel
theorem dX6_comesToWhat_92 : decode cX6_comesToWhat 92 = .ok (.iload_n 3, 1) := by decide +kernel
theorem dX6_comesToWhat_93 : decode cX6_comesToWhat 93 = .ok (.iaload, 1) := by decide +kernel
theorem dX6_comesToWhat_94 : decode cX6_comesToWhat 94 = .ok (.if_icmp .ne 7, 3) := by decide +kernel
theorem dX6_comesToWhat_97 : decode cX6_comesToWhat 97 = .ok (.iconst 1, 1) := by decide +kernel
theorem dX6_comesToWhat_98 : decode cX6_comesToWhat 98 = .ok (.goto 4, 3) := by decide +kernel
theorem dX6_comesToWhat_101 : decode cX6_comesToWhat 101 = .ok (.iconst 0, 1) := by decide +kernel
theorem dX6_comesToWhat_102 : decode cX6_comesToWhat 102 = .ok (.istore_n 2, 1) := by decide +kernel
theorem dX6_comesToWhat_103 : decode cX6_comesToWhat 103 = .ok (.iinc 3 1, 3) := by decide +kernel
theorem dX6_comesToWhat_106 : decode cX6_comesToWhat 106 = .ok (.goto (-41), 3) := by decide +kernel
theorem dX6_comesToWhat_109 : decode cX6_comesToWhat 109 = .ok (.iload_n 2, 1) := by decide +kernel
theorem dX6_comesToWhat_110 : decode cX6_comesToWhat 110 = .ok (.ireturn, 1) := by decide +kernel
def fX6_comesToWhat_101 (k65 : Int → Int → Int → Int → V_ → Option (Int × V_)) (x0 x1 x3 : Int) (v : V_) : Option (Int × V_) :=
  lt_ (wr_ (x3 + 1)) fun y8 =>
  k65 x0 x1 0 y8 v
def fX6_comesToWhat_65 : Nat → Int → Int → Int → Int → V_ → Option (Int × V_)
  | 0, _, _, _, _, _ => none
  | n + 1, x0, x1, x2, x3, v =>
    if 8 ≤ x3 then (
      ck_ (x2 = 0 ∨ x2 = 1) (
      some (x2, v)))
    else (
      if (v x0 4) = 0 then (
        if x2 = 0 then (
          fX6_comesToWhat_101 (fX6_comesToWhat_65 n) x0 x1 x3 v)
        else (
          ck_ (0 ≤ x3 ∧ x3 < 8) (
          ck_ (0 ≤ x3 ∧ x3 < 8) (
          if (v (x0 + 2) x3) = (v (x1 + 2) x3) then (
            lt_ (wr_ (x3 + 1)) fun y14 =>
            (fX6_comesToWhat_65 n) x0 x1 1 y14 v)
          else (
            fX6_comesToWhat_101 (fX6_comesToWhat_65 n) x0 x1 x3 v)))))
      else (
        ck_ (x2 = 0 ∨ x2 = 1) (
        some (x2, v))))
def fX6_comesToWhat_55 (k19 : Int → Int → Int → Int → V_ → Option (Int × V_)) (x0 x1 x3 : Int) (v : V_) : Option (Int × V_) :=
  lt_ (wr_ (x3 + 1)) fun y17 =>
  k19 x0 x1 0 y17 v
def fX6_comesToWhat_19 : Nat → Int → Int → Int → Int → V_ → Option (Int × V_)
  | 0, _, _, _, _, _ => none
  | n + 1, x0, x1, x2, x3, v =>
    if 6 ≤ x3 then (
      fX6_comesToWhat_65 fu_ x0 x1 x2 0 v)
    else (
      if (v x0 4) = 0 then (
        if x2 = 0 then (
          fX6_comesToWhat_55 (fX6_comesToWhat_19 n) x0 x1 x3 v)
        else (
          ck_ (0 ≤ x3 ∧ x3 < 12) (
          ck_ (0 ≤ x3 ∧ x3 < 12) (
          if (v (x0 + 1) x3) = (v (x1 + 1) x3) then (
            lt_ (wr_ (x3 + 1)) fun y23 =>
            (fX6_comesToWhat_19 n) x0 x1 1 y23 v)
          else (
            fX6_comesToWhat_55 (fX6_comesToWhat_19 n) x0 x1 x3 v)))))
      else (
        fX6_comesToWhat_65 fu_ x0 x1 x2 0 v))
def fX6_comesToWhat (x0 x1 : Int) (v : V_) : Option (Int × V_) :=
  if (v x0 4) = (v x1 4) then (
    fX6_comesToWhat_19 fu_ x0 x1 1 0 v)
  else (
    fX6_comesToWhat_19 fu_ x0 x1 0 0 v)
section
variable {E : En_} {p : Program} {l : Launch} {e : Env} {s : State} {m : MethodId} {args : Array Value} {below : List Frame} {meth : Method} {c : Code} {sz : Int}
theorem tX6_comesToWhat_101 (C : MC_ E p s m c cX6_comesToWhat 4 RX6) (hr : meth.sig.returnType = (some FieldType.boolean)) (hlk : meth.locks = false) (hC : Cl_ E.2.2.2.2.2 sz) {out : Int × V_} (k65 : Int → Int → Int → Int → V_ → Option (Int × V_)) (H_65 : ∀ (x0 x1 x2 x3 : Int) (v : V_), (E.2.2.2.2.2 x0 ∧ ty_ x0 = 6 ∧ ln_ x0 = 0) → (E.2.2.2.2.2 x1 ∧ ty_ x1 = 6 ∧ ln_ x1 = 0) → k65 x0 x1 x2 x3 v = some out → G_ E p l e (rm_ 0 0) s m args below meth c 4 sz (Q_ E below args s sz sz 0 out.1 out.2) 65 [(0, (2, x0)), (1, (2, x1)), (2, (0, x2)), (3, (0, x3))] [] v sz) (x0 x1 x3 : Int) (v : V_) (T0 : (E.2.2.2.2.2 x0 ∧ ty_ x0 = 6 ∧ ln_ x0 = 0)) (T1 : (E.2.2.2.2.2 x1 ∧ ty_ x1 = 6 ∧ ln_ x1 = 0)) (h : fX6_comesToWhat_101 k65 x0 x1 x3 v = some out) : G_ E p l e (rm_ 0 0) s m args below meth c 4 sz (Q_ E below args s sz sz 0 out.1 out.2) 101 [(0, (2, x0)), (1, (2, x1)), (3, (0, x3))] [] v sz := by
  rw [fX6_comesToWhat_101] at h
  refine g_iconst C (n := 0) dX6_comesToWhat_101 (by decide) ?_
  refine g_istore_n C (f := 2) (ls' := [(2, (0, 0)), (0, (2, x0)), (1, (2, x1)), (3, (0, x3))]) dX6_comesToWhat_102 (by decide) rfl ?_
  obtain ⟨y8, ey8, h⟩ := lt_e h
  refine g_iincx C (ls' := [(3, (0, y8)), (2, (0, 0)), (0, (2, x0)), (1, (2, x1))]) ey8 dX6_comesToWhat_103 3 rfl (by decide) (by decide) rfl ?_
  refine g_goto C 65 dX6_comesToWhat_106 rfl ?_
  refine g_sub [2, 3, 1, 0] rfl rfl ?_
  exact H_65 _ _ _ _ _ T0 T1 h
theorem tX6_comesToWhat_65 (C : MC_ E p s m c cX6_comesToWhat 4 RX6) (hr : meth.sig.returnType = (some FieldType.boolean)) (hlk : meth.locks = false) (hC : Cl_ E.2.2.2.2.2 sz) {out : Int × V_} : ∀ (n : Nat) (x0 x1 x2 x3 : Int) (v : V_), (E.2.2.2.2.2 x0 ∧ ty_ x0 = 6 ∧ ln_ x0 = 0) → (E.2.2.2.2.2 x1 ∧ ty_ x1 = 6 ∧ ln_ x1 = 0) → fX6_comesToWhat_65 n x0 x1 x2 x3 v = some out → G_ E p l e (rm_ 0 0) s m args below meth c 4 sz (Q_ E below args s sz sz 0 out.1 out.2) 65 [(0, (2, x0)), (1, (2, x1)), (2, (0, x2)), (3, (0, x3))] [] v sz := by
  intro n
  induction n with
  | zero =>
    intro x0 x1 x2 x3 v T0 T1 h
    cases h
  | succ n H_65 =>
    intro x0 x1 x2 x3 v T0 T1 h
    rw [fX6_comesToWhat_65] at h
    refine g_iload_n C (f := 3) dX6_comesToWhat_65 3 rfl ?_
    refine g_bipush C (n := 8) dX6_comesToWhat_66 (by decide) ?_
    refine g_icmp_ge C 109 dX6_comesToWhat_68 rfl (fun c3 => ?_) (fun c3 => ?_)
    · replace h := if_t h c3
      refine g_iload_n C (f := 2) dX6_comesToWhat_109 2 rfl ?_
      obtain ⟨c4, h⟩ := ck_e h
      cases h
      exact g_zret C dX6_comesToWhat_110 hr hlk c4
    · replace h := if_f h c3
      refine g_aload_n C (f := 0) dX6_comesToWhat_71 0 rfl ?_
      refine g_getf C (k := 4) (kd := 0) okX6 (by decide) kf_RX6_65 dX6_comesToWhat_72 (rg_ hC T0.1) T0.2.1 rfl ?_
      refine g_if_ne C 109 dX6_comesToWhat_75 rfl (fun c5 => ?_) (fun c5 => ?_)
      · replace h := if_f h c5
        refine g_iload_n C (f := 2) dX6_comesToWhat_109 2 rfl ?_
        obtain ⟨c6, h⟩ := ck_e h
        cases h
        exact g_zret C dX6_comesToWhat_110 hr hlk c6
      · replace h := if_t h c5
        refine g_iload_n C (f := 2) dX6_comesToWhat_78 2 rfl ?_
        refine g_if_eq C 101 dX6_comesToWhat_79 rfl (fun c7 => ?_) (fun c7 => ?_)
        · replace h := if_t h c7
          refine g_sub [0, 1, 3] rfl rfl ?_
          exact tX6_comesToWhat_101 C hr hlk hC _ H_65 _ _ _ _ T0 T1 h
        · replace h := if_f h c7
          refine g_aload_n C (f := 0) dX6_comesToWhat_82 0 rfl ?_
          have F9 := fX6_1 hC T0.1 T0.2.1
          refine g_getR C (k := 1) (o := 2) okX6 (by decide) kf_RX6_15 dX6_comesToWhat_83 hC T0.1 T0.2.1 rfl rfl ?_
          refine g_iload_n C (f := 3) dX6_comesToWhat_86 3 rfl ?_
          obtain ⟨c10, h⟩ := ck_e h
          refine g_iald C 8 dX6_comesToWhat_87 (rg_ hC F9.1) F9.2.1 F9.2.2 c10 ?_
          refine g_aload_n C (f := 1) dX6_comesToWhat_88 1 rfl ?_
          have F11 := fX6_1 hC T1.1 T1.2.1
          refine g_getR C (k := 1) (o := 2) okX6 (by decide) kf_RX6_15 dX6_comesToWhat_89 hC T1.1 T1.2.1 rfl rfl ?_
          refine g_iload_n C (f := 3) dX6_comesToWhat_92 3 rfl ?_
          obtain ⟨c12, h⟩ := ck_e h
          refine g_iald C 8 dX6_comesToWhat_93 (rg_ hC F11.1) F11.2.1 F11.2.2 c12 ?_
          refine g_icmp_ne C 101 dX6_comesToWhat_94 rfl (fun c13 => ?_) (fun c13 => ?_)
          · replace h := if_f h c13
            refine g_sub [0, 1, 3] rfl rfl ?_
            exact tX6_comesToWhat_101 C hr hlk hC _ H_65 _ _ _ _ T0 T1 h
          · replace h := if_t h c13
            refine g_iconst C (n := 1) dX6_comesToWhat_97 (by decide) ?_
            refine g_goto C 102 dX6_comesToWhat_98 rfl ?_
            refine g_istore_n C (f := 2) (ls' := [(2, (0, 1)), (0, (2, x0)), (1, (2, x1)), (3, (0, x3))]) dX6_comesToWhat_102 (by decide) rfl ?_
            obtain ⟨y14, ey14, h⟩ := lt_e h
            refine g_iincx C (ls' := [(3, (0, y14)), (2, (0, 1)), (0, (2, x0)), (1, (2, x1))]) ey14 dX6_comesToWhat_103 3 rfl (by decide) (by decide) rfl ?_
            refine g_goto C 65 dX6_comesToWhat_106 rfl ?_
            refine g_sub [2, 3, 1, 0] rfl rfl ?_
            exact H_65 _ _ _ _ _ T0 T1 h
theorem tX6_comesToWhat_55 (C : MC_ E p s m c cX6_comesToWhat 4 RX6) (hr : meth.sig.returnType = (some FieldType.boolean)) (hlk : meth.locks = false) (hC : Cl_ E.2.2.2.2.2 sz) {out : Int × V_} (k19 : Int → Int → Int → Int → V_ → Option (Int × V_)) (H_19 : ∀ (x0 x1 x2 x3 : Int) (v : V_), (E.2.2.2.2.2 x0 ∧ ty_ x0 = 6 ∧ ln_ x0 = 0) → (E.2.2.2.2.2 x1 ∧ ty_ x1 = 6 ∧ ln_ x1 = 0) → k19 x0 x1 x2 x3 v = some out → G_ E p l e (rm_ 0 0) s m args below meth c 4 sz (Q_ E below args s sz sz 0 out.1 out.2) 19 [(0, (2, x0)), (1, (2, x1)), (2, (0, x2)), (3, (0, x3))] [] v sz) (x0 x1 x3 : Int) (v : V_) (T0 : (E.2.2.2.2.2 x0 ∧ ty_ x0 = 6 ∧ ln_ x0 = 0)) (T1 : (E.2.2.2.2.2 x1 ∧ ty_ x1 = 6 ∧ ln_ x1 = 0)) (h : fX6_comesToWhat_55 k19 x0 x1 x3 v = some out) : G_ E p l e (rm_ 0 0) s m args below meth c 4 sz (Q_ E below args s sz sz 0 out.1 out.2) 55 [(0, (2, x0)), (1, (2, x1)), (3, (0, x3))] [] v sz := by
  rw [fX6_comesToWhat_55] at h
  refine g_iconst C (n := 0) dX6_comesToWhat_55 (by decide) ?_
  refine g_istore_n C (f := 2) (ls' := [(2, (0, 0)), (0, (2, x0)), (1, (2, x1)), (3, (0, x3))]) dX6_comesToWhat_56 (by decide) rfl ?_
  obtain ⟨y17, ey17, h⟩ := lt_e h
  refine g_iincx C (ls' := [(3, (0, y17)), (2, (0, 0)), (0, (2, x0)), (1, (2, x1))]) ey17 dX6_comesToWhat_57 3 rfl (by decide) (by decide) rfl ?_
  refine g_goto C 19 dX6_comesToWhat_60 rfl ?_
  refine g_sub [2, 3, 1, 0] rfl rfl ?_
  exact H_19 _ _ _ _ _ T0 T1 h
theorem tX6_comesToWhat_19 (C : MC_ E p s m c cX6_comesToWhat 4 RX6) (hr : meth.sig.returnType = (some FieldType.boolean)) (hlk : meth.locks = false) (hC : Cl_ E.2.2.2.2.2 sz) {out : Int × V_} : ∀ (n : Nat) (x0 x1 x2 x3 : Int) (v : V_), (E.2.2.2.2.2 x0 ∧ ty_ x0 = 6 ∧ ln_ x0 = 0) → (E.2.2.2.2.2 x1 ∧ ty_ x1 = 6 ∧ ln_ x1 = 0) → fX6_comesToWhat_19 n x0 x1 x2 x3 v = some out → G_ E p l e (rm_ 0 0) s m args below meth c 4 sz (Q_ E below args s sz sz 0 out.1 out.2) 19 [(0, (2, x0)), (1, (2, x1)), (2, (0, x2)), (3, (0, x3))] [] v sz := by
  intro n
  induction n with
  | zero =>
    intro x0 x1 x2 x3 v T0 T1 h
    cases h
  | succ n H_19 =>
    intro x0 x1 x2 x3 v T0 T1 h
    rw [fX6_comesToWhat_19] at h
    refine g_iload_n C (f := 3) dX6_comesToWhat_19 3 rfl ?_
    refine g_bipush C (n := 6) dX6_comesToWhat_20 (by decide) ?_
    refine g_icmp_ge C 63 dX6_comesToWhat_22 rfl (fun c2 => ?_) (fun c2 => ?_)
    · replace h := if_t h c2
      refine g_iconst C (n := 0) dX6_comesToWhat_63 (by decide) ?_
      refine g_istore_n C (f := 3) (ls' := [(3, (0, 0)), (0, (2, x0)), (1, (2, x1)), (2, (0, x2))]) dX6_comesToWhat_64 (by decide) rfl ?_
      refine g_sub [1, 2, 3, 0] rfl rfl ?_
      exact tX6_comesToWhat_65 C hr hlk hC _ _ _ _ _ _ T0 T1 h
    · replace h := if_f h c2
      refine g_aload_n C (f := 0) dX6_comesToWhat_25 0 rfl ?_
      refine g_getf C (k := 4) (kd := 0) okX6 (by decide) kf_RX6_65 dX6_comesToWhat_26 (rg_ hC T0.1) T0.2.1 rfl ?_
      refine g_if_ne C 63 dX6_comesToWhat_29 rfl (fun c15 => ?_) (fun c15 => ?_)
      · replace h := if_f h c15
        refine g_iconst C (n := 0) dX6_comesToWhat_63 (by decide) ?_
        refine g_istore_n C (f := 3) (ls' := [(3, (0, 0)), (0, (2, x0)), (1, (2, x1)), (2, (0, x2))]) dX6_comesToWhat_64 (by decide) rfl ?_
        refine g_sub [1, 2, 3, 0] rfl rfl ?_
        exact tX6_comesToWhat_65 C hr hlk hC _ _ _ _ _ _ T0 T1 h
      · replace h := if_t h c15
        refine g_iload_n C (f := 2) dX6_comesToWhat_32 2 rfl ?_
        refine g_if_eq C 55 dX6_comesToWhat_33 rfl (fun c16 => ?_) (fun c16 => ?_)
        · replace h := if_t h c16
          refine g_sub [0, 1, 3] rfl rfl ?_
          exact tX6_comesToWhat_55 C hr hlk hC _ H_19 _ _ _ _ T0 T1 h
        · replace h := if_f h c16
          refine g_aload_n C (f := 0) dX6_comesToWhat_36 0 rfl ?_
          have F18 := fX6_0 hC T0.1 T0.2.1
          refine g_getR C (k := 0) (o := 1) okX6 (by decide) kf_RX6_9 dX6_comesToWhat_37 hC T0.1 T0.2.1 rfl rfl ?_
          refine g_iload_n C (f := 3) dX6_comesToWhat_40 3 rfl ?_
          obtain ⟨c19, h⟩ := ck_e h
          refine g_iald C 12 dX6_comesToWhat_41 (rg_ hC F18.1) F18.2.1 F18.2.2 c19 ?_
          refine g_aload_n C (f := 1) dX6_comesToWhat_42 1 rfl ?_
          have F20 := fX6_0 hC T1.1 T1.2.1
          refine g_getR C (k := 0) (o := 1) okX6 (by decide) kf_RX6_9 dX6_comesToWhat_43 hC T1.1 T1.2.1 rfl rfl ?_
          refine g_iload_n C (f := 3) dX6_comesToWhat_46 3 rfl ?_
          obtain ⟨c21, h⟩ := ck_e h
          refine g_iald C 12 dX6_comesToWhat_47 (rg_ hC F20.1) F20.2.1 F20.2.2 c21 ?_
          refine g_icmp_ne C 55 dX6_comesToWhat_48 rfl (fun c22 => ?_) (fun c22 => ?_)
          · replace h := if_f h c22
            refine g_sub [0, 1, 3] rfl rfl ?_
            exact tX6_comesToWhat_55 C hr hlk hC _ H_19 _ _ _ _ T0 T1 h
          · replace h := if_t h c22
            refine g_iconst C (n := 1) dX6_comesToWhat_51 (by decide) ?_
            refine g_goto C 56 dX6_comesToWhat_52 rfl ?_
            refine g_istore_n C (f := 2) (ls' := [(2, (0, 1)), (0, (2, x0)), (1, (2, x1)), (3, (0, x3))]) dX6_comesToWhat_56 (by decide) rfl ?_
            obtain ⟨y23, ey23, h⟩ := lt_e h
            refine g_iincx C (ls' := [(3, (0, y23)), (2, (0, 1)), (0, (2, x0)), (1, (2, x1))]) ey23 dX6_comesToWhat_57 3 rfl (by decide) (by decide) rfl ?_
            refine g_goto C 19 dX6_comesToWhat_60 rfl ?_
            refine g_sub [2, 3, 1, 0] rfl rfl ?_
            exact H_19 _ _ _ _ _ T0 T1 h
end
theorem cX6_comesToWhat_ok (l : Launch) {E : En_} {sz : Int} (hC : Cl_ E.2.2.2.2.2 sz) {x0 x1 : Int} {v : V_} {out : Int × V_} (T0 : (E.2.2.2.2.2 x0 ∧ ty_ x0 = 6 ∧ ln_ x0 = 0)) (T1 : (E.2.2.2.2.2 x1 ∧ ty_ x1 = 6 ∧ ln_ x1 = 0)) (h : fX6_comesToWhat x0 x1 v = some out) : Met l yX6_comesToWhat [.code yX6_comesToWhat cX6_comesToWhat 4 (some FieldType.boolean)] (rm_ 0 0) (Pc_ E sz v [(2, x0), (2, x1)]) (Qc_ E sz 0 out.1 out.2) 0 0 (fun q => E.1 < q) := by
  refine met_G0 RX6 (by decide +kernel) rfl (Nat.le_of_ble_eq_true rfl) ?_
  intro p e s m args below meth c C hr hlk
  rw [fX6_comesToWhat] at h
  refine g_aload_n C (f := 0) dX6_comesToWhat_0 0 rfl ?_
  refine g_getf C (k := 4) (kd := 0) okX6 (by decide) kf_RX6_65 dX6_comesToWhat_1 (rg_ hC T0.1) T0.2.1 rfl ?_
  refine g_aload_n C (f := 1) dX6_comesToWhat_4 1 rfl ?_
  refine g_getf C (k := 4) (kd := 0) okX6 (by decide) kf_RX6_65 dX6_comesToWhat_5 (rg_ hC T1.1) T1.2.1 rfl ?_
  refine g_icmp_ne C 15 dX6_comesToWhat_8 rfl (fun c1 => ?_) (fun c1 => ?_)
  · replace h := if_f h c1
    refine g_iconst C (n := 0) dX6_comesToWhat_15 (by decide) ?_
    refine g_istore_n C (f := 2) (ls' := [(2, (0, 0)), (0, (2, x0)), (1, (2, x1))]) dX6_comesToWhat_16 (by decide) rfl ?_
    refine g_iconst C (n := 0) dX6_comesToWhat_17 (by decide) ?_
    refine g_istore_n C (f := 3) (ls' := [(3, (0, 0)), (2, (0, 0)), (0, (2, x0)), (1, (2, x1))]) dX6_comesToWhat_18 (by decide) rfl ?_
    refine g_sub [2, 3, 1, 0] rfl rfl ?_
    exact tX6_comesToWhat_19 C hr hlk hC _ _ _ _ _ _ T0 T1 h
  · replace h := if_t h c1
    refine g_iconst C (n := 1) dX6_comesToWhat_11 (by decide) ?_
    refine g_goto C 16 dX6_comesToWhat_12 rfl ?_
    refine g_istore_n C (f := 2) (ls' := [(2, (0, 1)), (0, (2, x0)), (1, (2, x1))]) dX6_comesToWhat_16 (by decide) rfl ?_
    refine g_iconst C (n := 0) dX6_comesToWhat_17 (by decide) ?_
    refine g_istore_n C (f := 3) (ls' := [(3, (0, 0)), (2, (0, 1)), (0, (2, x0)), (1, (2, x1))]) dX6_comesToWhat_18 (by decide) rfl ?_
    refine g_sub [2, 3, 1, 0] rfl rfl ?_
    exact tX6_comesToWhat_19 C hr hlk hC _ _ _ _ _ _ T0 T1 h
theorem dX6_fault_0 : decode cX6_fault 0 = .ok (.aload_n 0, 1) := by decide +kernel
theorem dX6_fault_1 : decode cX6_fault 1 = .ok (.iconst 1, 1) := by decide +kernel
theorem dX6_fault_2 : decode cX6_fault 2 = .ok (.putfield 65, 3) := by decide +kernel
theorem dX6_fault_5 : decode cX6_fault 5 = .ok (.aload_n 0, 1) := by decide +kernel
theorem dX6_fault_6 : decode cX6_fault 6 = .ok (.iconst (-1), 1) := by decide +kernel
theorem dX6_fault_7 : decode cX6_fault 7 = .ok (.putfield 34, 3) := by decide +kernel
theorem dX6_fault_10 : decode cX6_fault 10 = .ok (.return_, 1) := by decide +kernel
def fX6_fault (x0 : Int) (v : V_) : Option (Int × V_) :=
  lt_ (up_ v x0 4 1) fun v1 =>
  lt_ (up_ v1 x0 9 (-1)) fun v2 =>
  some (0, v2)
theorem cX6_fault_ok (l : Launch) {E : En_} {sz : Int} (hC : Cl_ E.2.2.2.2.2 sz) {x0 : Int} {v : V_} {out : Int × V_} (T0 : (E.2.2.2.2.2 x0 ∧ ty_ x0 = 6 ∧ ln_ x0 = 0)) (h : fX6_fault x0 v = some out) : Met l yX6_fault [.code yX6_fault cX6_fault 1 (none : Option FieldType)] (rm_ 0 0) (Pc_ E sz v [(2, x0)]) (Qc_ E sz 9 out.1 out.2) 0 0 (fun q => E.1 < q) := by
  refine met_G0 RX6 (by decide +kernel) rfl (Nat.le_of_ble_eq_true rfl) ?_
  intro p e s m args below meth c C hr hlk
  rw [fX6_fault] at h
  refine g_aload_n C (f := 0) dX6_fault_0 0 rfl ?_
  refine g_iconst C (n := 1) dX6_fault_1 (by decide) ?_
  obtain ⟨v1, ev1, h⟩ := lt_e h
  refine g_putf C (k := 4) (kd := 0) okX6 (by decide) kf_RX6_65 dX6_fault_2 (rg_ hC T0.1) T0.2.1 rfl rfl nvI (Or.inl rfl) v1 ev1 ?_
  refine g_aload_n C (f := 0) dX6_fault_5 0 rfl ?_
  refine g_iconst C (n := (-1)) dX6_fault_6 (by decide) ?_
  obtain ⟨v2, ev2, h⟩ := lt_e h
  refine g_putf C (k := 9) (kd := 0) okX6 (by decide) kf_RX6_34 dX6_fault_7 (rg_ hC T0.1) T0.2.1 rfl rfl nvI (Or.inl rfl) v2 ev2 ?_
  cases h
  exact g_vret C dX6_fault_10 hr hlk
theorem dX6_decide_0 : decode cX6_decide 0 = .ok (.iload_n 2, 1) := by decide +kernel
theorem dX6_decide_1 : decode cX6_decide 1 = .ok (.istore 4, 2) := by decide +kernel
theorem dX6_decide_3 : decode cX6_decide 3 = .ok (.iload 4, 2) := by decide +kernel
theorem dX6_decide_5 : decode cX6_decide 5 = .ok (.iload_n 3, 1) := by decide +kernel
theorem dX6_decide_6 : decode cX6_decide 6 = .ok (.if_icmp .ge 100, 3) := by decide +kernel
theorem dX6_decide_9 : decode cX6_decide 9 = .ok (.aload_n 1, 1) := by decide +kernel
theorem dX6_decide_10 : decode cX6_decide 10 = .ok (.getfield 154, 3) := by decide +kernel
theorem dX6_decide_13 : decode cX6_decide 13 = .ok (.aload_n 1, 1) := by decide +kernel
theorem dX6_decide_14 : decode cX6_decide 14 = .ok (.getfield 184, 3) := by decide +kernel
theorem dX6_decide_17 : decode cX6_decide 17 = .ok (.iload 4, 2) := by decide +kernel
theorem dX6_decide_19 : decode cX6_decide 19 = .ok (.iaload, 1) := by decide +kernel
theorem dX6_decide_20 : decode cX6_decide 20 = .ok (.aaload, 1) := by decide +kernel
theorem dX6_decide_21 : decode cX6_decide 21 = .ok (.astore 5, 2) := by decide +kernel
theorem dX6_decide_23 : decode cX6_decide 23 = .ok (.aload 5, 2) := by decide +kernel
theorem dX6_decide_25 : decode cX6_decide 25 = .ok (.invokevirtual 209, 3) := by decide +kernel
theorem dX6_decide_28 : decode cX6_decide 28 = .ok (.ifCond .eq 52, 3) := by decide +kernel
theorem dX6_decide_31 : decode cX6_decide 31 = .ok (.aload_n 0, 1) := by decide +kernel
theorem dX6_decide_32 : decode cX6_decide 32 = .ok (.getfield 24, 3) := by decide +kernel
theorem dX6_decide_35 : decode cX6_decide 35 = .ok (.iload 4, 2) := by decide +kernel
theorem dX6_decide_37 : decode cX6_decide 37 = .ok (.iaload, 1) := by decide +kernel
theorem dX6_decide_38 : decode cX6_decide 38 = .ok (.aload 5, 2) := by decide +kernel
theorem dX6_decide_40 : decode cX6_decide 40 = .ok (.getfield 213, 3) := by decide +kernel
theorem dX6_decide_43 : decode cX6_decide 43 = .ok (.if_icmp .ne 11, 3) := by decide +kernel
theorem dX6_decide_46 : decode cX6_decide 46 = .ok (.aload_n 1, 1) := by decide +kernel
theorem dX6_decide_47 : decode cX6_decide 47 = .ok (.getfield 184, 3) := by decide +kernel
theorem dX6_decide_50 : decode cX6_decide 50 = .ok (.iload 4, 2) := by decide +kernel
theorem dX6_decide_52 : decode cX6_decide 52 = .ok (.iaload, 1) := by decide +kernel
theorem dX6_decide_53 : decode cX6_decide 53 = .ok (.ireturn, 1) := by decide +kernel
theorem dX6_decide_54 : decode cX6_decide 54 = .ok (.aload_n 0, 1) := by decide +kernel
theorem dX6_decide_55 : decode cX6_decide 55 = .ok (.getfield 142, 3) := by decide +kernel
theorem dX6_decide_58 : decode cX6_decide 58 = .ok (.aload_n 1, 1) := by decide +kernel
theorem dX6_decide_59 : decode cX6_decide 59 = .ok (.getfield 184, 3) := by decide +kernel
theorem dX6_decide_62 : decode cX6_decide 62 = .ok (.iload 4, 2) := by decide +kernel
theorem dX6_decide_64 : decode cX6_decide 64 = .ok (.iaload, 1) := by decide +kernel
theorem dX6_decide_65 : decode cX6_decide 65 = .ok (.lshr, 1) := by decide +kernel
theorem dX6_decide_66 : decode cX6_decide 66 = .ok (.lconst 1, 1) := by decide +kernel
theorem dX6_decide_67 : decode cX6_decide 67 = .ok (.land, 1) := by decide +kernel
theorem dX6_decide_68 : decode cX6_decide 68 = .ok (.lconst 1, 1) := by decide +kernel
theorem dX6_decide_69 : decode cX6_decide 69 = .ok (.lcmp, 1) := by decide +kernel
theorem dX6_decide_70 : decode cX6_decide 70 = .ok (.ifCond .ne 30, 3) := by decide +kernel
theorem dX6_decide_73 : decode cX6_decide 73 = .ok (.aload_n 0, 1) := by decide +kernel
theorem dX6_decide_74 : decode cX6_decide 74 = .ok (.invokevirtual 105, 3) := by decide +kernel
theorem dX6_decide_77 : decode cX6_decide 77 = .ok (.goto 23, 3) := by decide +kernel
theorem dX6_decide_80 : decode cX6_decide 80 = .ok (.aload 5, 2) := by decide +kernel
theorem dX6_decide_82 : decode cX6_decide 82 = .ok (.getfield 216, 3) := by decide +kernel
theorem dX6_decide_85 : decode cX6_decide 85 = .ok (.iconst 3, 1) := by decide +kernel
theorem dX6_decide_86 : decode cX6_decide 86 = .ok (.if_icmp .ne 14, 3) := by decide +kernel
theorem dX6_decide_89 : decode cX6_decide 89 = .ok (.aload_n 0, 1) := by decide +kernel
theorem dX6_decide_90 : decode cX6_decide 90 = .ok (.aload_n 0, 1) := by decide +kernel
theorem dX6_decide_91 : decode cX6_decide 91 = .ok (.getfield 24, 3) := by decide +kernel
theorem dX6_decide_94 : decode cX6_decide 94 = .ok (.iload 4, 2) := by decide +kernel
theorem dX6_decide_96 : decode cX6_decide 96 = .ok (.iaload, 1) := by decide +kernel
theorem dX6_decide_97 : decode cX6_decide 97 = .ok (.putfield 176, 3) := by decide +kernel
theorem dX6_decide_100 : decode cX6_decide 100 = .ok (.iinc 4 1, 3) := by decide +kernel
theorem dX6_decide_103 : decode cX6_decide 103 = .ok (.goto (-100), 3) := by decide +kernel
theorem dX6_decide_106 : decode cX6_decide 106 = .ok (.iconst (-1), 1) := by decide +kernel
theorem dX6_decide_107 : decode cX6_decide 107 = .ok (.ireturn, 1) := by decide +kernel
def fX6_decide_3 : Nat → Int → Int → Int → Int → V_ → Option (Int × V_)
  | 0, _, _, _, _, _ => none
  | n + 1, x0, x1, x3, x4, v =>
    if x3 ≤ x4 then (
      some ((-1), v))
    else (
      ck_ (0 ≤ x4 ∧ x4 < 34) (
      ck_ (0 ≤ v (x1 + 3) x4 ∧ v (x1 + 3) x4 < 34) (
      lt_ ((x1 + 2) + (5 + 2 * (v (x1 + 3) x4))) fun y7 =>
      bd_ (fX1_isSplit y7 v) fun q9 =>
      if q9.1 = 0 then (
        if (q9.2 y7 1) = 3 then (
          ck_ (0 ≤ x4 ∧ x4 < 34) (
          lt_ (up_ q9.2 x0 10 (q9.2 (x0 + 5) x4)) fun v15 =>
          lt_ (wr_ (x4 + 1)) fun y16 =>
          (fX6_decide_3 n) x0 x1 x3 y16 v15))
        else (
          lt_ (wr_ (x4 + 1)) fun y12 =>
          (fX6_decide_3 n) x0 x1 x3 y12 q9.2))
      else (
        ck_ (0 ≤ x4 ∧ x4 < 34) (
        if (q9.2 (x0 + 5) x4) = (q9.2 y7 4) then (
          ck_ (0 ≤ x4 ∧ x4 < 34) (
          some (q9.2 (x1 + 3) x4, q9.2)))
        else (
          ck_ (0 ≤ x4 ∧ x4 < 34) (
          if (lc_ (lA_ (lR_ (q9.2 x0 11) (q9.2 (x1 + 3) x4)) 1) 1) = 0 then (
            bd_ (fX6_fault x0 q9.2) fun q24 =>
            lt_ (wr_ (x4 + 1)) fun y25 =>
            (fX6_decide_3 n) x0 x1 x3 y25 q24.2)
          else (
            lt_ (wr_ (x4 + 1)) fun y23 =>
            (fX6_decide_3 n) x0 x1 x3 y23 q9.2))))))))
def fX6_decide (x0 x1 x2 x3 : Int) (v : V_) : Option (Int × V_) :=
  fX6_decide_3 fu_ x0 x1 x3 x2 v
section
variable {E : En_} {p : Program} {l : Launch} {e : Env} {s : State} {m : MethodId} {args : Array Value} {below : List Frame} {meth : Method} {c : Code} {sz : Int}
theorem tX6_decide_3 (C : MC_ E p s m c cX6_decide 6 RX6) (hr : meth.sig.returnType = (some FieldType.int)) (hlk : meth.locks = false) (hC : Cl_ E.2.2.2.2.2 sz) {out : Int × V_} : ∀ (n : Nat) (x0 x1 x3 x4 : Int) (v : V_), (E.2.2.2.2.2 x0 ∧ ty_ x0 = 6 ∧ ln_ x0 = 0) → (E.2.2.2.2.2 x1 ∧ ty_ x1 = 10 ∧ ln_ x1 = 0) → fX6_decide_3 n x0 x1 x3 x4 v = some out → G_ E p l e (rm_ 1 20) s m args below meth c 6 sz (Q_ E below args s sz sz 0 out.1 out.2) 3 [(0, (2, x0)), (1, (2, x1)), (3, (0, x3)), (4, (0, x4))] [] v sz := by
  intro n
  induction n with
  | zero =>
    intro x0 x1 x3 x4 v T0 T1 h
    cases h
  | succ n H_3 =>
    intro x0 x1 x3 x4 v T0 T1 h
    rw [fX6_decide_3] at h
    refine g_iload C (i := 4) dX6_decide_3 3 rfl ?_
    refine g_iload_n C (f := 3) dX6_decide_5 2 rfl ?_
    refine g_icmp_ge C 106 dX6_decide_6 rfl (fun c1 => ?_) (fun c1 => ?_)
    · replace h := if_t h c1
      refine g_iconst C (n := (-1)) dX6_decide_106 (by decide) ?_
      cases h
      exact g_iret C dX6_decide_107 hr hlk
    · replace h := if_f h c1
      refine g_aload_n C (f := 1) dX6_decide_9 1 rfl ?_
      have F2 := fX10_2 hC T1.1 T1.2.1
      refine g_getR C (k := 2) (o := 2) okX10 (by decide) kf_RX6_154 dX6_decide_10 hC T1.1 T1.2.1 rfl rfl ?_
      refine g_aload_n C (f := 1) dX6_decide_13 1 rfl ?_
      have F3 := fX10_12 hC T1.1 T1.2.1
      refine g_getR C (k := 12) (o := 3) okX10 (by decide) kf_RX6_184 dX6_decide_14 hC T1.1 T1.2.1 rfl rfl ?_
      refine g_iload C (i := 4) dX6_decide_17 3 rfl ?_
      obtain ⟨c4, h⟩ := ck_e h
      refine g_iald C 34 dX6_decide_19 (rg_ hC F3.1) F3.2.1 F3.2.2 c4 ?_
      obtain ⟨c5, h⟩ := ck_e h
      have F6 := fE_items (i := v (x1 + 3) x4) hC F2.1 F2.2.1 F2.2.2 c5
      refine g_aald C 26 34 5 2 dX6_decide_20 hC F2.1 F2.2.1 F2.2.2 c5 (by decide) oA_items ?_
      obtain ⟨y7, ey7, h⟩ := lt_e h
      refine g_set C ey7 ?_
      have F8 : (E.2.2.2.2.2 y7 ∧ ty_ y7 = 1 ∧ ln_ y7 = 0) := by rw [ey7]; exact F6
      refine g_astore C (i := 5) (ls' := [(5, (2, y7)), (0, (2, x0)), (1, (2, x1)), (3, (0, x3)), (4, (0, x4))]) dX6_decide_21 (by decide) rfl ?_
      refine g_aload C (i := 5) dX6_decide_23 0 rfl ?_
      obtain ⟨q9, eq9, h⟩ := bd_e h
      refine g_cV C [] (cX1_isSplit_ok l hC F8 eq9) okX1 F8.2.1 (rg_ hC F8.1) km_RX6_209 cv_X1_isSplit rfl (by decide) rfl rfl (Nat.le_of_ble_eq_true rfl) dX6_decide_25 ?_
      refine g_if_eq C 80 dX6_decide_28 rfl (fun c10 => ?_) (fun c10 => ?_)
      · replace h := if_t h c10
        refine g_aload C (i := 5) dX6_decide_80 0 rfl ?_
        refine g_getf C (k := 1) (kd := 0) okX1 (by decide) kf_RX6_216 dX6_decide_82 (rg_ hC F8.1) F8.2.1 rfl ?_
        refine g_iconst C (n := 3) dX6_decide_85 (by decide) ?_
        refine g_icmp_ne C 100 dX6_decide_86 rfl (fun c11 => ?_) (fun c11 => ?_)
        · replace h := if_f h c11
          obtain ⟨y12, ey12, h⟩ := lt_e h
          refine g_iincx C (ls' := [(4, (0, y12)), (5, (2, y7)), (0, (2, x0)), (1, (2, x1)), (3, (0, x3))]) ey12 dX6_decide_100 4 rfl (by decide) (by decide) rfl ?_
          refine g_goto C 3 dX6_decide_103 rfl ?_
          refine g_sub [2, 3, 4, 0] rfl rfl ?_
          exact H_3 _ _ _ _ _ T0 T1 h
        · replace h := if_t h c11
          refine g_aload_n C (f := 0) dX6_decide_89 1 rfl ?_
          refine g_aload_n C (f := 0) dX6_decide_90 1 rfl ?_
          have F13 := fX6_12 hC T0.1 T0.2.1
          refine g_getR C (k := 12) (o := 5) okX6 (by decide) kf_RX6_24 dX6_decide_91 hC T0.1 T0.2.1 rfl rfl ?_
          refine g_iload C (i := 4) dX6_decide_94 4 rfl ?_
          obtain ⟨c14, h⟩ := ck_e h
          refine g_iald C 34 dX6_decide_96 (rg_ hC F13.1) F13.2.1 F13.2.2 c14 ?_
          obtain ⟨v15, ev15, h⟩ := lt_e h
          refine g_putf C (k := 10) (kd := 0) okX6 (by decide) kf_RX6_176 dX6_decide_97 (rg_ hC T0.1) T0.2.1 rfl rfl nvI (Or.inl rfl) v15 ev15 ?_
          obtain ⟨y16, ey16, h⟩ := lt_e h
          refine g_iincx C (ls' := [(4, (0, y16)), (5, (2, y7)), (0, (2, x0)), (1, (2, x1)), (3, (0, x3))]) ey16 dX6_decide_100 4 rfl (by decide) (by decide) rfl ?_
          refine g_goto C 3 dX6_decide_103 rfl ?_
          refine g_sub [2, 3, 4, 0] rfl rfl ?_
          exact H_3 _ _ _ _ _ T0 T1 h
      · replace h := if_f h c10
        refine g_aload_n C (f := 0) dX6_decide_31 1 rfl ?_
        have F17 := fX6_12 hC T0.1 T0.2.1
        refine g_getR C (k := 12) (o := 5) okX6 (by decide) kf_RX6_24 dX6_decide_32 hC T0.1 T0.2.1 rfl rfl ?_
        refine g_iload C (i := 4) dX6_decide_35 4 rfl ?_
        obtain ⟨c18, h⟩ := ck_e h
        refine g_iald C 34 dX6_decide_37 (rg_ hC F17.1) F17.2.1 F17.2.2 c18 ?_
        refine g_aload C (i := 5) dX6_decide_38 0 rfl ?_
        refine g_getf C (k := 4) (kd := 0) okX1 (by decide) kf_RX6_213 dX6_decide_40 (rg_ hC F8.1) F8.2.1 rfl ?_
        refine g_icmp_ne C 54 dX6_decide_43 rfl (fun c19 => ?_) (fun c19 => ?_)
        · replace h := if_f h c19
          refine g_aload_n C (f := 0) dX6_decide_54 1 rfl ?_
          refine g_getf C (k := 11) (kd := 1) okX6 (by decide) kf_RX6_142 dX6_decide_55 (rg_ hC T0.1) T0.2.1 rfl ?_
          refine g_aload_n C (f := 1) dX6_decide_58 2 rfl ?_
          have F20 := fX10_12 hC T1.1 T1.2.1
          refine g_getR C (k := 12) (o := 3) okX10 (by decide) kf_RX6_184 dX6_decide_59 hC T1.1 T1.2.1 rfl rfl ?_
          refine g_iload C (i := 4) dX6_decide_62 4 rfl ?_
          obtain ⟨c21, h⟩ := ck_e h
          refine g_iald C 34 dX6_decide_64 (rg_ hC F20.1) F20.2.1 F20.2.2 c21 ?_
          refine g_lshr C dX6_decide_65 ?_
          refine g_lconst C (z := 1) dX6_decide_66 (by decide) ?_
          refine g_land C dX6_decide_67 ?_
          refine g_lconst C (z := 1) dX6_decide_68 (by decide) ?_
          refine g_lcmp C dX6_decide_69 ?_
          refine g_if_ne C 100 dX6_decide_70 rfl (fun c22 => ?_) (fun c22 => ?_)
          · replace h := if_f h c22
            obtain ⟨y23, ey23, h⟩ := lt_e h
            refine g_iincx C (ls' := [(4, (0, y23)), (5, (2, y7)), (0, (2, x0)), (1, (2, x1)), (3, (0, x3))]) ey23 dX6_decide_100 4 rfl (by decide) (by decide) rfl ?_
            refine g_goto C 3 dX6_decide_103 rfl ?_
            refine g_sub [2, 3, 4, 0] rfl rfl ?_
            exact H_3 _ _ _ _ _ T0 T1 h
          · replace h := if_t h c22
            refine g_aload_n C (f := 0) dX6_decide_73 1 rfl ?_
            obtain ⟨q24, eq24, h⟩ := bd_e h
            refine g_cV C [] (cX6_fault_ok l hC T0 eq24) okX6 T0.2.1 (rg_ hC T0.1) km_RX6_105 cv_X6_fault rfl (by decide) rfl rfl (Nat.le_of_ble_eq_true rfl) dX6_decide_74 ?_
            refine g_goto C 100 dX6_decide_77 rfl ?_
            obtain ⟨y25, ey25, h⟩ := lt_e h
            refine g_iincx C (ls' := [(4, (0, y25)), (5, (2, y7)), (0, (2, x0)), (1, (2, x1)), (3, (0, x3))]) ey25 dX6_decide_100 4 rfl (by decide) (by decide) rfl ?_
            refine g_goto C 3 dX6_decide_103 rfl ?_
            refine g_sub [2, 3, 4, 0] rfl rfl ?_
            exact H_3 _ _ _ _ _ T0 T1 h
        · replace h := if_t h c19
          refine g_aload_n C (f := 1) dX6_decide_46 2 rfl ?_
          have F26 := fX10_12 hC T1.1 T1.2.1
          refine g_getR C (k := 12) (o := 3) okX10 (by decide) kf_RX6_184 dX6_decide_47 hC T1.1 T1.2.1 rfl rfl ?_
          refine g_iload C (i := 4) dX6_decide_50 4 rfl ?_
          obtain ⟨c27, h⟩ := ck_e h
          refine g_iald C 34 dX6_decide_52 (rg_ hC F26.1) F26.2.1 F26.2.2 c27 ?_
          cases h
          exact g_iret C dX6_decide_53 hr hlk
end
theorem cX6_decide_ok (l : Launch) {E : En_} {sz : Int} (hC : Cl_ E.2.2.2.2.2 sz) {x0 x1 x2 x3 : Int} {v : V_} {out : Int × V_} (T0 : (E.2.2.2.2.2 x0 ∧ ty_ x0 = 6 ∧ ln_ x0 = 0)) (T1 : (E.2.2.2.2.2 x1 ∧ ty_ x1 = 10 ∧ ln_ x1 = 0)) (h : fX6_decide x0 x1 x2 x3 v = some out) : Met l yX6_decide [.code yX6_decide cX6_decide 6 (some FieldType.int)] (rm_ 1 20) (Pc_ E sz v [(2, x0), (2, x1), (0, x2), (0, x3)]) (Qc_ E sz 0 out.1 out.2) 0 0 (fun q => E.1 < q) := by
  refine met_G0 RX6 (by decide +kernel) rfl (Nat.le_of_ble_eq_true rfl) ?_
  intro p e s m args below meth c C hr hlk
  rw [fX6_decide] at h
  refine g_iload_n C (f := 2) dX6_decide_0 2 rfl ?_
  refine g_istore C (i := 4) (ls' := [(4, (0, x2)), (0, (2, x0)), (1, (2, x1)), (2, (0, x2)), (3, (0, x3))]) dX6_decide_1 (by decide) rfl ?_
  refine g_sub [1, 2, 4, 0] rfl rfl ?_
  exact tX6_decide_3 C hr hlk hC _ _ _ _ _ _ T0 T1 h
theorem dX11_isCell_0 : decode cX11_isCell 0 = .ok (.iload_n 0, 1) := by decide +kernel
theorem dX11_isCell_1 : decode cX11_isCell 1 = .ok (.ifCond .lt 13, 3) := by decide +kernel
theorem dX11_isCell_4 : decode cX11_isCell 4 = .ok (.iload_n 0, 1) := by decide +kernel
theorem dX11_isCell_5 : decode cX11_isCell 5 = .ok (.bipush 8, 2) := by decide +kernel
theorem dX11_isCell_7 : decode cX11_isCell 7 = .ok (.if_icmp .ge 7, 3) := by decide +kernel
theorem dX11_isCell_10 : decode cX11_isCell 10 = .ok (.iconst 1, 1) := by decide +kernel
theorem dX11_isCell_11 : decode cX11_isCell 11 = .ok (.goto 4, 3) := by decide +kernel
theorem dX11_isCell_14 : decode cX11_isCell 14 = .ok (.iconst 0, 1) := by decide +kernel
theorem dX11_isCell_15 : decode cX11_isCell 15 = .ok (.ireturn, 1) := by decide +kernel
def fX11_isCell (x0 : Int) (v : V_) : Option (Int × V_) :=
  if x0 < 0 then (
    some (0, v))
  else (
    if 8 ≤ x0 then (
      some (0, v))
    else (
      some (1, v)))
theorem cX11_isCell_ok (l : Launch) {E : En_} {sz : Int} (hC : Cl_ E.2.2.2.2.2 sz) {x0 : Int} {v : V_} {out : Int × V_} (h : fX11_isCell x0 v = some out) : Met l yX11_isCell [.code yX11_isCell cX11_isCell 1 (some FieldType.boolean)] (rm_ 0 0) (Pc_ E sz v [(0, x0)]) (Qc_ E sz 0 out.1 out.2) 0 0 (fun q => E.1 < q) := by
  refine met_G0 RX11 (by decide +kernel) rfl (Nat.le_of_ble_eq_true rfl) ?_
  intro p e s m args below meth c C hr hlk
  rw [fX11_isCell] at h
  refine g_iload_n C (f := 0) dX11_isCell_0 0 rfl ?_
  refine g_if_lt C 14 dX11_isCell_1 rfl (fun c1 => ?_) (fun c1 => ?_)
  · replace h := if_t h c1
    refine g_iconst C (n := 0) dX11_isCell_14 (by decide) ?_
    cases h
    exact g_zret C dX11_isCell_15 hr hlk (Or.inl rfl)
  · replace h := if_f h c1
    refine g_iload_n C (f := 0) dX11_isCell_4 0 rfl ?_
    refine g_bipush C (n := 8) dX11_isCell_5 (by decide) ?_
    refine g_icmp_ge C 14 dX11_isCell_7 rfl (fun c2 => ?_) (fun c2 => ?_)
    · replace h := if_t h c2
      refine g_iconst C (n := 0) dX11_isCell_14 (by decide) ?_
      cases h
      exact g_zret C dX11_isCell_15 hr hlk (Or.inl rfl)
    · replace h := if_f h c2
      refine g_iconst C (n := 1) dX11_isCell_10 (by decide) ?_
      refine g_goto C 15 dX11_isCell_11 rfl ?_
      cases h
      exact g_zret C dX11_isCell_15 hr hlk (Or.inr rfl)
theorem dX6_valueOf_0 : decode cX6_valueOf 0 = .ok (.iload_n 1, 1) := by decide +kernel
theorem dX6_valueOf_1 : decode cX6_valueOf 1 = .ok (.ifCond .lt 5, 3) := by decide +kernel
theorem dX6_valueOf_4 : decode cX6_valueOf 4 = .ok (.iload_n 1, 1) := by decide +kernel
theorem dX6_valueOf_5 : decode cX6_valueOf 5 = .ok (.ireturn, 1) := by decide +kernel
theorem dX6_valueOf_6 : decode cX6_valueOf 6 = .ok (.iload_n 1, 1) := by decide +kernel
theorem dX6_valueOf_7 : decode cX6_valueOf 7 = .ok (.iconst (-1), 1) := by decide +kernel
theorem dX6_valueOf_8 : decode cX6_valueOf 8 = .ok (.ixor, 1) := by decide +kernel
theorem dX6_valueOf_9 : decode cX6_valueOf 9 = .ok (.aload_n 0, 1) := by decide +kernel
theorem dX6_valueOf_10 : decode cX6_valueOf 10 = .ok (.getfield 9, 3) := by decide +kernel
theorem dX6_valueOf_13 : decode cX6_valueOf 13 = .ok (.arraylength, 1) := by decide +kernel
theorem dX6_valueOf_14 : decode cX6_valueOf 14 = .ok (.if_icmp .ge 14, 3) := by decide +kernel
theorem dX6_valueOf_17 : decode cX6_valueOf 17 = .ok (.aload_n 0, 1) := by decide +kernel
theorem dX6_valueOf_18 : decode cX6_valueOf 18 = .ok (.getfield 9, 3) := by decide +kernel
theorem dX6_valueOf_21 : decode cX6_valueOf 21 = .ok (.iload_n 1, 1) := by decide +kernel
theorem dX6_valueOf_22 : decode cX6_valueOf 22 = .ok (.iconst (-1), 1) := by decide +kernel
theorem dX6_valueOf_23 : decode cX6_valueOf 23 = .ok (.ixor, 1) := by decide +kernel
theorem dX6_valueOf_24 : decode cX6_valueOf 24 = .ok (.iaload, 1) := by decide +kernel
theorem dX6_valueOf_25 : decode cX6_valueOf 25 = .ok (.goto 4, 3) := by decide +kernel
theorem dX6_valueOf_28 : decode cX6_valueOf 28 = .ok (.iconst 0, 1) := by decide +kernel
theorem dX6_valueOf_29 : decode cX6_valueOf 29 = .ok (.ireturn, 1) := by decide +kernel
def fX6_valueOf (x0 x1 : Int) (v : V_) : Option (Int × V_) :=
  if x1 < 0 then (
    if 12 ≤ (bX_ x1 (-1)) then (
      some (0, v))
    else (
      ck_ (0 ≤ bX_ x1 (-1) ∧ bX_ x1 (-1) < 12) (
      some (v (x0 + 1) (bX_ x1 (-1)), v))))
  else (
    some (x1, v))
theorem cX6_valueOf_ok (l : Launch) {E : En_} {sz : Int} (hC : Cl_ E.2.2.2.2.2 sz) {x0 x1 : Int} {v : V_} {out : Int × V_} (T0 : (E.2.2.2.2.2 x0 ∧ ty_ x0 = 6 ∧ ln_ x0 = 0)) (h : fX6_valueOf x0 x1 v = some out) : Met l yX6_valueOf [.code yX6_valueOf cX6_valueOf 2 (some FieldType.int)] (rm_ 0 0) (Pc_ E sz v [(2, x0), (0, x1)]) (Qc_ E sz 0 out.1 out.2) 0 0 (fun q => E.1 < q) := by
  refine met_G0 RX6 (by decide +kernel) rfl (Nat.le_of_ble_eq_true rfl) ?_
  intro p e s m args below meth c C hr hlk
  rw [fX6_valueOf] at h
  refine g_iload_n C (f := 1) dX6_valueOf_0 1 rfl ?_
  refine g_if_lt C 6 dX6_valueOf_1 rfl (fun c1 => ?_) (fun c1 => ?_)
  · replace h := if_t h c1
    refine g_iload_n C (f := 1) dX6_valueOf_6 1 rfl ?_
    refine g_iconst C (n := (-1)) dX6_valueOf_7 (by decide) ?_
    refine g_ixor C dX6_valueOf_8 ?_
    refine g_aload_n C (f := 0) dX6_valueOf_9 0 rfl ?_
    have F2 := fX6_0 hC T0.1 T0.2.1
    refine g_getR C (k := 0) (o := 1) okX6 (by decide) kf_RX6_9 dX6_valueOf_10 hC T0.1 T0.2.1 rfl rfl ?_
    refine g_alen C 20 12 dX6_valueOf_13 (rg_ hC F2.1) F2.2.1 F2.2.2 (by decide) (by decide) ?_
    refine g_icmp_ge C 28 dX6_valueOf_14 rfl (fun c3 => ?_) (fun c3 => ?_)
    · replace h := if_t h c3
      refine g_iconst C (n := 0) dX6_valueOf_28 (by decide) ?_
      cases h
      exact g_iret C dX6_valueOf_29 hr hlk
    · replace h := if_f h c3
      refine g_aload_n C (f := 0) dX6_valueOf_17 0 rfl ?_
      have F4 := fX6_0 hC T0.1 T0.2.1
      refine g_getR C (k := 0) (o := 1) okX6 (by decide) kf_RX6_9 dX6_valueOf_18 hC T0.1 T0.2.1 rfl rfl ?_
      refine g_iload_n C (f := 1) dX6_valueOf_21 1 rfl ?_
      refine g_iconst C (n := (-1)) dX6_valueOf_22 (by decide) ?_
      refine g_ixor C dX6_valueOf_23 ?_
      obtain ⟨c5, h⟩ := ck_e h
      refine g_iald C 12 dX6_valueOf_24 (rg_ hC F4.1) F4.2.1 F4.2.2 c5 ?_
      refine g_goto C 29 dX6_valueOf_25 rfl ?_
      cases h
      exact g_iret C dX6_valueOf_29 hr hlk
  · replace h := if_f h c1
    refine g_iload_n C (f := 1) dX6_valueOf_4 1 rfl ?_
    cases h
    exact g_iret C dX6_valueOf_5 hr hlk
theorem dX6_resultOf_0 : decode cX6_resultOf 0 = .ok (.aload_n 0, 1) := by decide +kernel
theorem dX6_resultOf_1 : decode cX6_resultOf 1 = .ok (.aload_n 1, 1) := by decide +kernel
theorem dX6_resultOf_2 : decode cX6_resultOf 2 = .ok (.getfield 112, 3) := by decide +kernel
theorem dX6_resultOf_5 : decode cX6_resultOf 5 = .ok (.invokevirtual 117, 3) := by decide +kernel
theorem dX6_resultOf_8 : decode cX6_resultOf 8 = .ok (.istore_n 2, 1) := by decide +kernel
theorem dX6_resultOf_9 : decode cX6_resultOf 9 = .ok (.aload_n 0, 1) := by decide +kernel
theorem dX6_resultOf_10 : decode cX6_resultOf 10 = .ok (.aload_n 1, 1) := by decide +kernel
theorem dX6_resultOf_11 : decode cX6_resultOf 11 = .ok (.getfield 225, 3) := by decide +kernel
theorem dX6_resultOf_14 : decode cX6_resultOf 14 = .ok (.invokevirtual 117, 3) := by decide +kernel
theorem dX6_resultOf_17 : decode cX6_resultOf 17 = .ok (.istore_n 3, 1) := by decide +kernel
theorem dX6_resultOf_18 : decode cX6_resultOf 18 = .ok (.aload_n 1, 1) := by decide +kernel
theorem dX6_resultOf_19 : decode cX6_resultOf 19 = .ok (.getfield 222, 3) := by decide +kernel
theorem dX6_resultOf_22 : decode cX6_resultOf 22 = .ok (.tableswitch 107 0 8 #[50, 54, 58, 62, 74, 92, 94, 107, 96], 50) := by decide +kernel
theorem dX6_resultOf_72 : decode cX6_resultOf 72 = .ok (.iload_n 2, 1) := by decide +kernel
theorem dX6_resultOf_73 : decode cX6_resultOf 73 = .ok (.iload_n 3, 1) := by decide +kernel
theorem dX6_resultOf_74 : decode cX6_resultOf 74 = .ok (.iadd, 1) := by decide +kernel
theorem dX6_resultOf_75 : decode cX6_resultOf 75 = .ok (.ireturn, 1) := by decide +kernel
theorem dX6_resultOf_76 : decode cX6_resultOf 76 = .ok (.iload_n 2, 1) := by decide +kernel
theorem dX6_resultOf_77 : decode cX6_resultOf 77 = .ok (.iload_n 3, 1) := by decide +kernel
theorem dX6_resultOf_78 : decode cX6_resultOf 78 = .ok (.isub, 1) := by decide +kernel
theorem dX6_resultOf_79 : decode cX6_resultOf 79 = .ok (.ireturn, 1) := by decide +kernel
theorem dX6_resultOf_80 : decode cX6_resultOf 80 = .ok (.iload_n 2, 1) := by decide +kernel
theorem dX6_resultOf_81 : decode cX6_resultOf 81 = .ok (.iload_n 3, 1) := by decide +kernel
theorem dX6_resultOf_82 : decode cX6_resultOf 82 = .ok (.imul, 1) := by decide +kernel
theorem dX6_resultOf_83 : decode cX6_resultOf 83 = .ok (.ireturn, 1) := by decide +kernel
theorem dX6_resultOf_84 : decode cX6_resultOf 84 = .ok (.iload_n 3, 1) := by decide +kernel
theorem dX6_resultOf_85 : decode cX6_resultOf 85 = .ok (.ifCond .ne 7, 3) := by decide +kernel
theorem dX6_resultOf_88 : decode cX6_resultOf 88 = .ok (.iconst 0, 1) := by decide +kernel
theorem dX6_resultOf_89 : decode cX6_resultOf 89 = .ok (.goto 6, 3) := by decide +kernel
theorem dX6_resultOf_92 : decode cX6_resultOf 92 = .ok (.iload_n 2, 1) := by decide +kernel
theorem dX6_resultOf_93 : decode cX6_resultOf 93 = .ok (.iload_n 3, 1) := by decide +kernel
theorem dX6_resultOf_94 : decode cX6_resultOf 94 = .ok (.idiv, 1) := by decide +kernel
theorem dX6_resultOf_95 : decode cX6_resultOf 95 = .ok (.ireturn, 1) := by decide +kernel
theorem dX6_resultOf_96 : decode cX6_resultOf 96 = .ok (.iload_n 2, 1) := by decide +kernel
theorem dX6_resultOf_97 : decode cX6_resultOf 97 = .ok (.invokestatic 228, 3) := by decide +kernel
theorem dX6_resultOf_100 : decode cX6_resultOf 100 = .ok (.ifCond .eq 12, 3) := by decide +kernel
theorem dX6_resultOf_103 : decode cX6_resultOf 103 = .ok (.aload_n 0, 1) := by decide +kernel
theorem dX6_resultOf_104 : decode cX6_resultOf 104 = .ok (.getfield 15, 3) := by decide +kernel
theorem dX6_resultOf_107 : decode cX6_resultOf 107 = .ok (.iload_n 2, 1) := by decide +kernel
theorem dX6_resultOf_108 : decode cX6_resultOf 108 = .ok (.iaload, 1) := by decide +kernel
theorem dX6_resultOf_109 : decode cX6_resultOf 109 = .ok (.goto 4, 3) := by decide +kernel
theorem dX6_resultOf_112 : decode cX6_resultOf 112 = .ok (.iconst 0, 1) := by decide +kernel
theorem dX6_resultOf_113 : decode cX6_resultOf 113 = .ok (.ireturn, 1) := by decide +kernel
theorem dX6_resultOf_114 : decode cX6_resultOf 114 = .ok (.iload_n 3, 1) := by decide +kernel
theorem dX6_resultOf_115 : decode cX6_resultOf 115 = .ok (.ireturn, 1) := by decide +kernel
theorem dX6_resultOf_116 : decode cX6_resultOf 116 = .ok (.iload_n 2, 1) := by decide +kernel
theorem dX6_resultOf_117 : decode cX6_resultOf 117 = .ok (.ireturn, 1) := by decide +kernel
theorem dX6_resultOf_118 : decode cX6_resultOf 118 = .ok (.iload_n 2, 1) := by decide +kernel
theorem dX6_resultOf_119 : decode cX6_resultOf 119 = .ok (.iload_n 3, 1) := by decide +kernel
theorem dX6_resultOf_120 : decode cX6_resultOf 120 = .ok (.if_icmp .ge 7, 3) := by decide +kernel
theorem dX6_resultOf_123 : decode cX6_resultOf 123 = .ok (.iconst 0, 1) := by decide +kernel
theorem dX6_resultOf_124 : decode cX6_resultOf 124 = .ok (.goto 4, 3) := by decide +kernel
theorem dX6_resultOf_127 : decode cX6_resultOf 127 = .ok (.iconst 1, 1) := by decide +kernel
theorem dX6_resultOf_128 : decode cX6_resultOf 128 = .ok (.ireturn, 1) := by decide +kernel
theorem dX6_resultOf_129 : decode cX6_resultOf 129 = .ok (.iconst 0, 1) := by decide +kernel
theorem dX6_resultOf_130 : decode cX6_resultOf 130 = .ok (.ireturn, 1) := by decide +kernel
def fX6_resultOf (x0 x1 : Int) (v : V_) : Option (Int × V_) :=
  bd_ (fX6_valueOf x0 (v x1 2) v) fun q1 =>
  bd_ (fX6_valueOf x0 (q1.2 x1 3) q1.2) fun q2 =>
  if (q2.2 x1 0) = 0 then (
    some (wr_ (q1.1 + q2.1), q2.2))
  else (
  if (q2.2 x1 0) = 1 then (
    some (wr_ (q1.1 - q2.1), q2.2))
  else (
  if (q2.2 x1 0) = 2 then (
    some (wr_ (q1.1 * q2.1), q2.2))
  else (
  if (q2.2 x1 0) = 3 then (
    if q2.1 = 0 then (
      some (0, q2.2))
    else (
      ck_ (q2.1 ≠ 0) (
      some (wr_ (Int.tdiv q1.1 q2.1), q2.2))))
  else (
  if (q2.2 x1 0) = 4 then (
    bd_ (fX11_isCell q1.1 q2.2) fun q10 =>
    if q10.1 = 0 then (
      some (0, q10.2))
    else (
      ck_ (0 ≤ q1.1 ∧ q1.1 < 8) (
      some (q10.2 (x0 + 2) q1.1, q10.2))))
  else (
  if (q2.2 x1 0) = 5 then (
    some (q2.1, q2.2))
  else (
  if (q2.2 x1 0) = 6 then (
    some (q1.1, q2.2))
  else (
  if (q2.2 x1 0) = 8 then (
    if q2.1 ≤ q1.1 then (
      some (1, q2.2))
    else (
      some (0, q2.2)))
  else (
  some (0, q2.2)))))))))
theorem cX6_resultOf_ok (l : Launch) {E : En_} {sz : Int} (hC : Cl_ E.2.2.2.2.2 sz) {x0 x1 : Int} {v : V_} {out : Int × V_} (T0 : (E.2.2.2.2.2 x0 ∧ ty_ x0 = 6 ∧ ln_ x0 = 0)) (T1 : (E.2.2.2.2.2 x1 ∧ ty_ x1 = 8 ∧ ln_ x1 = 0)) (h : fX6_resultOf x0 x1 v = some out) : Met l yX6_resultOf [.code yX6_resultOf cX6_resultOf 4 (some FieldType.int)] (rm_ 1 21) (Pc_ E sz v [(2, x0), (2, x1)]) (Qc_ E sz 0 out.1 out.2) 0 0 (fun q => E.1 < q) := by
  refine met_G0 RX6 (by decide +kernel) rfl (Nat.le_of_ble_eq_true rfl) ?_
  intro p e s m args below meth c C hr hlk
  rw [fX6_resultOf] at h
  refine g_aload_n C (f := 0) dX6_resultOf_0 0 rfl ?_
  refine g_aload_n C (f := 1) dX6_resultOf_1 1 rfl ?_
  refine g_getf C (k := 2) (kd := 0) okX8 (by decide) kf_RX6_112 dX6_resultOf_2 (rg_ hC T1.1) T1.2.1 rfl ?_
  obtain ⟨q1, eq1, h⟩ := bd_e h
  refine g_cV C [(0, v x1 2)] (cX6_valueOf_ok l hC T0 eq1) okX6 T0.2.1 (rg_ hC T0.1) km_RX6_117 cv_X6_valueOf rfl (by decide) rfl rfl (Nat.le_of_ble_eq_true rfl) dX6_resultOf_5 ?_
  refine g_istore_n C (f := 2) (ls' := [(2, (0, q1.1)), (0, (2, x0)), (1, (2, x1))]) dX6_resultOf_8 (by decide) rfl ?_
  refine g_aload_n C (f := 0) dX6_resultOf_9 1 rfl ?_
  refine g_aload_n C (f := 1) dX6_resultOf_10 2 rfl ?_
  refine g_getf C (k := 3) (kd := 0) okX8 (by decide) kf_RX6_225 dX6_resultOf_11 (rg_ hC T1.1) T1.2.1 rfl ?_
  obtain ⟨q2, eq2, h⟩ := bd_e h
  refine g_cV C [(0, q1.2 x1 3)] (cX6_valueOf_ok l hC T0 eq2) okX6 T0.2.1 (rg_ hC T0.1) km_RX6_117 cv_X6_valueOf rfl (by decide) rfl rfl (Nat.le_of_ble_eq_true rfl) dX6_resultOf_14 ?_
  refine g_istore_n C (f := 3) (ls' := [(3, (0, q2.1)), (2, (0, q1.1)), (0, (2, x0)), (1, (2, x1))]) dX6_resultOf_17 (by decide) rfl ?_
  refine g_aload_n C (f := 1) dX6_resultOf_18 3 rfl ?_
  refine g_getf C (k := 0) (kd := 0) okX8 (by decide) kf_RX6_222 dX6_resultOf_19 (rg_ hC T1.1) T1.2.1 rfl ?_
  by_cases c3 : (q2.2 x1 0) = 0
  · replace h := if_t h c3
    refine g_tin C 72 dX6_resultOf_22 0 c3 (by decide) (by decide) rfl rfl ?_
    refine g_iload_n C (f := 2) dX6_resultOf_72 1 rfl ?_
    refine g_iload_n C (f := 3) dX6_resultOf_73 0 rfl ?_
    refine g_iadd C dX6_resultOf_74 ?_
    cases h
    exact g_iret C dX6_resultOf_75 hr hlk
  replace h := if_f h c3
  by_cases c4 : (q2.2 x1 0) = 1
  · replace h := if_t h c4
    refine g_tin C 76 dX6_resultOf_22 1 c4 (by decide) (by decide) rfl rfl ?_
    refine g_iload_n C (f := 2) dX6_resultOf_76 1 rfl ?_
    refine g_iload_n C (f := 3) dX6_resultOf_77 0 rfl ?_
    refine g_isub C dX6_resultOf_78 ?_
    cases h
    exact g_iret C dX6_resultOf_79 hr hlk
  replace h := if_f h c4
  by_cases c5 : (q2.2 x1 0) = 2
  · replace h := if_t h c5
    refine g_tin C 80 dX6_resultOf_22 2 c5 (by decide) (by decide) rfl rfl ?_
    refine g_iload_n C (f := 2) dX6_resultOf_80 1 rfl ?_
    refine g_iload_n C (f := 3) dX6_resultOf_81 0 rfl ?_
    refine g_imul C dX6_resultOf_82 ?_
    cases h
    exact g_iret C dX6_resultOf_83 hr hlk
  replace h := if_f h c5
  by_cases c6 : (q2.2 x1 0) = 3
  · replace h := if_t h c6
    refine g_tin C 84 dX6_resultOf_22 3 c6 (by decide) (by decide) rfl rfl ?_
    refine g_iload_n C (f := 3) dX6_resultOf_84 0 rfl ?_
    refine g_if_ne C 92 dX6_resultOf_85 rfl (fun c7 => ?_) (fun c7 => ?_)
    · replace h := if_f h c7
      refine g_iload_n C (f := 2) dX6_resultOf_92 1 rfl ?_
      refine g_iload_n C (f := 3) dX6_resultOf_93 0 rfl ?_
      obtain ⟨c8, h⟩ := ck_e h
      refine g_idiv C dX6_resultOf_94 c8 ?_
      cases h
      exact g_iret C dX6_resultOf_95 hr hlk
    · replace h := if_t h c7
      refine g_iconst C (n := 0) dX6_resultOf_88 (by decide) ?_
      refine g_goto C 95 dX6_resultOf_89 rfl ?_
      cases h
      exact g_iret C dX6_resultOf_95 hr hlk
  replace h := if_f h c6
  by_cases c9 : (q2.2 x1 0) = 4
  · replace h := if_t h c9
    refine g_tin C 96 dX6_resultOf_22 4 c9 (by decide) (by decide) rfl rfl ?_
    refine g_iload_n C (f := 2) dX6_resultOf_96 1 rfl ?_
    obtain ⟨q10, eq10, h⟩ := bd_e h
    refine g_cSN C [(0, q1.1)] (cX11_isCell_ok l hC eq10) km_RX6_228 cs_X11_isCell rfl (by decide) rfl rfl (Nat.le_of_ble_eq_true rfl) dX6_resultOf_97 ?_
    refine g_if_eq C 112 dX6_resultOf_100 rfl (fun c11 => ?_) (fun c11 => ?_)
    · replace h := if_t h c11
      refine g_iconst C (n := 0) dX6_resultOf_112 (by decide) ?_
      cases h
      exact g_iret C dX6_resultOf_113 hr hlk
    · replace h := if_f h c11
      refine g_aload_n C (f := 0) dX6_resultOf_103 2 rfl ?_
      have F12 := fX6_1 hC T0.1 T0.2.1
      refine g_getR C (k := 1) (o := 2) okX6 (by decide) kf_RX6_15 dX6_resultOf_104 hC T0.1 T0.2.1 rfl rfl ?_
      refine g_iload_n C (f := 2) dX6_resultOf_107 1 rfl ?_
      obtain ⟨c13, h⟩ := ck_e h
      refine g_iald C 8 dX6_resultOf_108 (rg_ hC F12.1) F12.2.1 F12.2.2 c13 ?_
      refine g_goto C 113 dX6_resultOf_109 rfl ?_
      cases h
      exact g_iret C dX6_resultOf_113 hr hlk
  replace h := if_f h c9
  by_cases c14 : (q2.2 x1 0) = 5
  · replace h := if_t h c14
    refine g_tin C 114 dX6_resultOf_22 5 c14 (by decide) (by decide) rfl rfl ?_
    refine g_iload_n C (f := 3) dX6_resultOf_114 0 rfl ?_
    cases h
    exact g_iret C dX6_resultOf_115 hr hlk
  replace h := if_f h c14
  by_cases c15 : (q2.2 x1 0) = 6
  · replace h := if_t h c15
    refine g_tin C 116 dX6_resultOf_22 6 c15 (by decide) (by decide) rfl rfl ?_
    refine g_iload_n C (f := 2) dX6_resultOf_116 1 rfl ?_
    cases h
    exact g_iret C dX6_resultOf_117 hr hlk
  replace h := if_f h c15
  by_cases c16 : (q2.2 x1 0) = 8
  · replace h := if_t h c16
    refine g_tin C 118 dX6_resultOf_22 8 c16 (by decide) (by decide) rfl rfl ?_
    refine g_iload_n C (f := 2) dX6_resultOf_118 1 rfl ?_
    refine g_iload_n C (f := 3) dX6_resultOf_119 0 rfl ?_
    refine g_icmp_ge C 127 dX6_resultOf_120 rfl (fun c17 => ?_) (fun c17 => ?_)
    · replace h := if_t h c17
      refine g_iconst C (n := 1) dX6_resultOf_127 (by decide) ?_
      cases h
      exact g_iret C dX6_resultOf_128 hr hlk
    · replace h := if_f h c17
      refine g_iconst C (n := 0) dX6_resultOf_123 (by decide) ?_
      refine g_goto C 128 dX6_resultOf_124 rfl ?_
      cases h
      exact g_iret C dX6_resultOf_128 hr hlk
  replace h := if_f h c16
  refine g_tdef C (x := q2.2 x1 0) 129 dX6_resultOf_22 (by intro a ha h1 h2; have hh : a = 7 := (by omega); rcases hh with rfl <;> rfl) rfl ?_
  refine g_iconst C (n := 0) dX6_resultOf_129 (by decide) ?_
  cases h
  exact g_iret C dX6_resultOf_130 hr hlk
theorem dX6_settle_0 : decode cX6_settle 0 = .ok (.aload_n 1, 1) := by decide +kernel
theorem dX6_settle_1 : decode cX6_settle 1 = .ok (.getfield 222, 3) := by decide +kernel
theorem dX6_settle_4 : decode cX6_settle 4 = .ok (.iconst 5, 1) := by decide +kernel
theorem dX6_settle_5 : decode cX6_settle 5 = .ok (.if_icmp .ne 20, 3) := by decide +kernel
theorem dX6_settle_8 : decode cX6_settle 8 = .ok (.iload_n 3, 1) := by decide +kernel
theorem dX6_settle_9 : decode cX6_settle 9 = .ok (.invokestatic 228, 3) := by decide +kernel
theorem dX6_settle_12 : decode cX6_settle 12 = .ok (.ifCond .eq 42, 3) := by decide +kernel
theorem dX6_settle_15 : decode cX6_settle 15 = .ok (.aload_n 0, 1) := by decide +kernel
theorem dX6_settle_16 : decode cX6_settle 16 = .ok (.getfield 15, 3) := by decide +kernel
theorem dX6_settle_19 : decode cX6_settle 19 = .ok (.iload_n 3, 1) := by decide +kernel
theorem dX6_settle_20 : decode cX6_settle 20 = .ok (.iload_n 2, 1) := by decide +kernel
theorem dX6_settle_21 : decode cX6_settle 21 = .ok (.iastore, 1) := by decide +kernel
theorem dX6_settle_22 : decode cX6_settle 22 = .ok (.goto 32, 3) := by decide +kernel
theorem dX6_settle_25 : decode cX6_settle 25 = .ok (.aload_n 1, 1) := by decide +kernel
theorem dX6_settle_26 : decode cX6_settle 26 = .ok (.getfield 232, 3) := by decide +kernel
theorem dX6_settle_29 : decode cX6_settle 29 = .ok (.ifCond .lt 25, 3) := by decide +kernel
theorem dX6_settle_32 : decode cX6_settle 32 = .ok (.aload_n 1, 1) := by decide +kernel
theorem dX6_settle_33 : decode cX6_settle 33 = .ok (.getfield 232, 3) := by decide +kernel
theorem dX6_settle_36 : decode cX6_settle 36 = .ok (.aload_n 0, 1) := by decide +kernel
theorem dX6_settle_37 : decode cX6_settle 37 = .ok (.getfield 9, 3) := by decide +kernel
theorem dX6_settle_40 : decode cX6_settle 40 = .ok (.arraylength, 1) := by decide +kernel
theorem dX6_settle_41 : decode cX6_settle 41 = .ok (.if_icmp .ge 13, 3) := by decide +kernel
theorem dX6_settle_44 : decode cX6_settle 44 = .ok (.aload_n 0, 1) := by decide +kernel
theorem dX6_settle_45 : decode cX6_settle 45 = .ok (.getfield 9, 3) := by decide +kernel
theorem dX6_settle_48 : decode cX6_settle 48 = .ok (.aload_n 1, 1) := by decide +kernel
theorem dX6_settle_49 : decode cX6_settle 49 = .ok (.getfield 232, 3) := by decide +kernel
theorem dX6_settle_52 : decode cX6_settle 52 = .ok (.iload_n 2, 1) := by decide +kernel
theorem dX6_settle_53 : decode cX6_settle 53 = .ok (.iastore, 1) := by decide +kernel
theorem dX6_settle_54 : decode cX6_settle 54 = .ok (.return_, 1) := by decide +kernel
def fX6_settle (x0 x1 x2 x3 : Int) (v : V_) : Option (Int × V_) :=
  if (v x1 0) = 5 then (
    bd_ (fX11_isCell x3 v) fun q8 =>
    if q8.1 = 0 then (
      some (0, q8.2))
    else (
      ck_ (0 ≤ x3 ∧ x3 < 8) (
      lt_ (up_ q8.2 (x0 + 2) x3 x2) fun v12 =>
      some (0, v12))))
  else (
    if (v x1 1) < 0 then (
      some (0, v))
    else (
      if 12 ≤ (v x1 1) then (
        some (0, v))
      else (
        ck_ (0 ≤ v x1 1 ∧ v x1 1 < 12) (
        lt_ (up_ v (x0 + 1) (v x1 1) x2) fun v7 =>
        some (0, v7)))))
theorem cX6_settle_ok (l : Launch) {E : En_} {sz : Int} (hC : Cl_ E.2.2.2.2.2 sz) {x0 x1 x2 x3 : Int} {v : V_} {out : Int × V_} (T0 : (E.2.2.2.2.2 x0 ∧ ty_ x0 = 6 ∧ ln_ x0 = 0)) (T1 : (E.2.2.2.2.2 x1 ∧ ty_ x1 = 8 ∧ ln_ x1 = 0)) (h : fX6_settle x0 x1 x2 x3 v = some out) : Met l yX6_settle [.code yX6_settle cX6_settle 4 (none : Option FieldType)] (rm_ 1 20) (Pc_ E sz v [(2, x0), (2, x1), (0, x2), (0, x3)]) (Qc_ E sz 9 out.1 out.2) 0 0 (fun q => E.1 < q) := by
  refine met_G0 RX6 (by decide +kernel) rfl (Nat.le_of_ble_eq_true rfl) ?_
  intro p e s m args below meth c C hr hlk
  rw [fX6_settle] at h
  refine g_aload_n C (f := 1) dX6_settle_0 1 rfl ?_
  refine g_getf C (k := 0) (kd := 0) okX8 (by decide) kf_RX6_222 dX6_settle_1 (rg_ hC T1.1) T1.2.1 rfl ?_
  refine g_iconst C (n := 5) dX6_settle_4 (by decide) ?_
  refine g_icmp_ne C 25 dX6_settle_5 rfl (fun c1 => ?_) (fun c1 => ?_)
  · replace h := if_f h c1
    refine g_aload_n C (f := 1) dX6_settle_25 1 rfl ?_
    refine g_getf C (k := 1) (kd := 0) okX8 (by decide) kf_RX6_232 dX6_settle_26 (rg_ hC T1.1) T1.2.1 rfl ?_
    refine g_if_lt C 54 dX6_settle_29 rfl (fun c2 => ?_) (fun c2 => ?_)
    · replace h := if_t h c2
      cases h
      exact g_vret C dX6_settle_54 hr hlk
    · replace h := if_f h c2
      refine g_aload_n C (f := 1) dX6_settle_32 1 rfl ?_
      refine g_getf C (k := 1) (kd := 0) okX8 (by decide) kf_RX6_232 dX6_settle_33 (rg_ hC T1.1) T1.2.1 rfl ?_
      refine g_aload_n C (f := 0) dX6_settle_36 0 rfl ?_
      have F3 := fX6_0 hC T0.1 T0.2.1
      refine g_getR C (k := 0) (o := 1) okX6 (by decide) kf_RX6_9 dX6_settle_37 hC T0.1 T0.2.1 rfl rfl ?_
      refine g_alen C 20 12 dX6_settle_40 (rg_ hC F3.1) F3.2.1 F3.2.2 (by decide) (by decide) ?_
      refine g_icmp_ge C 54 dX6_settle_41 rfl (fun c4 => ?_) (fun c4 => ?_)
      · replace h := if_t h c4
        cases h
        exact g_vret C dX6_settle_54 hr hlk
      · replace h := if_f h c4
        refine g_aload_n C (f := 0) dX6_settle_44 0 rfl ?_
        have F5 := fX6_0 hC T0.1 T0.2.1
        refine g_getR C (k := 0) (o := 1) okX6 (by decide) kf_RX6_9 dX6_settle_45 hC T0.1 T0.2.1 rfl rfl ?_
        refine g_aload_n C (f := 1) dX6_settle_48 1 rfl ?_
        refine g_getf C (k := 1) (kd := 0) okX8 (by decide) kf_RX6_232 dX6_settle_49 (rg_ hC T1.1) T1.2.1 rfl ?_
        refine g_iload_n C (f := 2) dX6_settle_52 2 rfl ?_
        obtain ⟨c6, h⟩ := ck_e h
        obtain ⟨v7, ev7, h⟩ := lt_e h
        refine g_iast C 12 dX6_settle_53 (rg_ hC F5.1) F5.2.1 F5.2.2 c6 v7 ev7 ?_
        cases h
        exact g_vret C dX6_settle_54 hr hlk
  · replace h := if_t h c1
    refine g_iload_n C (f := 3) dX6_settle_8 3 rfl ?_
    obtain ⟨q8, eq8, h⟩ := bd_e h
    refine g_cSN C [(0, x3)] (cX11_isCell_ok l hC eq8) km_RX6_228 cs_X11_isCell rfl (by decide) rfl rfl (Nat.le_of_ble_eq_true rfl) dX6_settle_9 ?_
    refine g_if_eq C 54 dX6_settle_12 rfl (fun c9 => ?_) (fun c9 => ?_)
    · replace h := if_t h c9
      cases h
      exact g_vret C dX6_settle_54 hr hlk
    · replace h := if_f h c9
      refine g_aload_n C (f := 0) dX6_settle_15 0 rfl ?_
      have F10 := fX6_1 hC T0.1 T0.2.1
      refine g_getR C (k := 1) (o := 2) okX6 (by decide) kf_RX6_15 dX6_settle_16 hC T0.1 T0.2.1 rfl rfl ?_
      refine g_iload_n C (f := 3) dX6_settle_19 3 rfl ?_
      refine g_iload_n C (f := 2) dX6_settle_20 2 rfl ?_
      obtain ⟨c11, h⟩ := ck_e h
      obtain ⟨v12, ev12, h⟩ := lt_e h
      refine g_iast C 8 dX6_settle_21 (rg_ hC F10.1) F10.2.1 F10.2.2 c11 v12 ev12 ?_
      refine g_goto C 54 dX6_settle_22 rfl ?_
      cases h
      exact g_vret C dX6_settle_54 hr hlk
