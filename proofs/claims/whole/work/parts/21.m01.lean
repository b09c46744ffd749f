theorem dX2_layItem_0 : decode cX2_layItem 0 = .ok (.aload_n 0, 1) := by decide +kernel
theorem dX2_layItem_1 : decode cX2_layItem 1 = .ok (.getfield 9, 3) := by decide +kernel
theorem dX2_layItem_4 : decode cX2_layItem 4 = .ok (.iload_n 2, 1) := by decide +kernel
theorem dX2_layItem_5 : decode cX2_layItem 5 = .ok (.iload_n 3, 1) := by decide +kernel
theorem dX2_layItem_6 : decode cX2_layItem 6 = .ok (.iastore, 1) := by decide +kernel
theorem dX2_layItem_7 : decode cX2_layItem 7 = .ok (.aload_n 0, 1) := by decide +kernel
theorem dX2_layItem_8 : decode cX2_layItem 8 = .ok (.getfield 15, 3) := by decide +kernel
theorem dX2_layItem_11 : decode cX2_layItem 11 = .ok (.aload_n 0, 1) := by decide +kernel
theorem dX2_layItem_12 : decode cX2_layItem 12 = .ok (.getfield 31, 3) := by decide +kernel
theorem dX2_layItem_15 : decode cX2_layItem 15 = .ok (.iload_n 2, 1) := by decide +kernel
theorem dX2_layItem_16 : decode cX2_layItem 16 = .ok (.iastore, 1) := by decide +kernel
theorem dX2_layItem_17 : decode cX2_layItem 17 = .ok (.aload_n 0, 1) := by decide +kernel
theorem dX2_layItem_18 : decode cX2_layItem 18 = .ok (.dup, 1) := by decide +kernel
theorem dX2_layItem_19 : decode cX2_layItem 19 = .ok (.getfield 31, 3) := by decide +kernel
theorem dX2_layItem_22 : decode cX2_layItem 22 = .ok (.iconst 1, 1) := by decide +kernel
theorem dX2_layItem_23 : decode cX2_layItem 23 = .ok (.iadd, 1) := by decide +kernel
theorem dX2_layItem_24 : decode cX2_layItem 24 = .ok (.putfield 31, 3) := by decide +kernel
theorem dX2_layItem_27 : decode cX2_layItem 27 = .ok (.aload_n 0, 1) := by decide +kernel
theorem dX2_layItem_28 : decode cX2_layItem 28 = .ok (.getfield 24, 3) := by decide +kernel
theorem dX2_layItem_31 : decode cX2_layItem 31 = .ok (.aload_n 1, 1) := by decide +kernel
theorem dX2_layItem_32 : decode cX2_layItem 32 = .ok (.getfield 58, 3) := by decide +kernel
theorem dX2_layItem_35 : decode cX2_layItem 35 = .ok (.iload_n 2, 1) := by decide +kernel
theorem dX2_layItem_36 : decode cX2_layItem 36 = .ok (.aaload, 1) := by decide +kernel
theorem dX2_layItem_37 : decode cX2_layItem 37 = .ok (.getfield 62, 3) := by decide +kernel
theorem dX2_layItem_40 : decode cX2_layItem 40 = .ok (.invokevirtual 68, 3) := by decide +kernel
theorem dX2_layItem_43 : decode cX2_layItem 43 = .ok (.dup2, 1) := by decide +kernel
theorem dX2_layItem_44 : decode cX2_layItem 44 = .ok (.iaload, 1) := by decide +kernel
theorem dX2_layItem_45 : decode cX2_layItem 45 = .ok (.iconst 1, 1) := by decide +kernel
theorem dX2_layItem_46 : decode cX2_layItem 46 = .ok (.isub, 1) := by decide +kernel
theorem dX2_layItem_47 : decode cX2_layItem 47 = .ok (.iastore, 1) := by decide +kernel
theorem dX2_layItem_48 : decode cX2_layItem 48 = .ok (.iload_n 2, 1) := by decide +kernel
theorem dX2_layItem_49 : decode cX2_layItem 49 = .ok (.iconst 1, 1) := by decide +kernel
theorem dX2_layItem_50 : decode cX2_layItem 50 = .ok (.iadd, 1) := by decide +kernel
theorem dX2_layItem_51 : decode cX2_layItem 51 = .ok (.istore 4, 2) := by decide +kernel
theorem dX2_layItem_53 : decode cX2_layItem 53 = .ok (.iload 4, 2) := by decide +kernel
theorem dX2_layItem_55 : decode cX2_layItem 55 = .ok (.aload_n 1, 1) := by decide +kernel
theorem dX2_layItem_56 : decode cX2_layItem 56 = .ok (.getfield 35, 3) := by decide +kernel
theorem dX2_layItem_59 : decode cX2_layItem 59 = .ok (.if_icmp .ge 55, 3) := by decide +kernel
theorem dX2_layItem_62 : decode cX2_layItem 62 = .ok (.aload_n 1, 1) := by decide +kernel
theorem dX2_layItem_63 : decode cX2_layItem 63 = .ok (.iload_n 2, 1) := by decide +kernel
theorem dX2_layItem_64 : decode cX2_layItem 64 = .ok (.iload 4, 2) := by decide +kernel
theorem dX2_layItem_66 : decode cX2_layItem 66 = .ok (.invokevirtual 54, 3) := by decide +kernel
theorem dX2_layItem_69 : decode cX2_layItem 69 = .ok (.istore 5, 2) := by decide +kernel
theorem dX2_layItem_71 : decode cX2_layItem 71 = .ok (.iload 5, 2) := by decide +kernel
theorem dX2_layItem_73 : decode cX2_layItem 73 = .ok (.ifCond .lt 35, 3) := by decide +kernel
theorem dX2_layItem_76 : decode cX2_layItem 76 = .ok (.aload_n 0, 1) := by decide +kernel
theorem dX2_layItem_77 : decode cX2_layItem 77 = .ok (.getfield 18, 3) := by decide +kernel
theorem dX2_layItem_80 : decode cX2_layItem 80 = .ok (.iload 4, 2) := by decide +kernel
theorem dX2_layItem_82 : decode cX2_layItem 82 = .ok (.aload_n 0, 1) := by decide +kernel
theorem dX2_layItem_83 : decode cX2_layItem 83 = .ok (.getfield 18, 3) := by decide +kernel
theorem dX2_layItem_86 : decode cX2_layItem 86 = .ok (.iload 4, 2) := by decide +kernel
theorem dX2_layItem_88 : decode cX2_layItem 88 = .ok (.iaload, 1) := by decide +kernel
theorem dX2_layItem_89 : decode cX2_layItem 89 = .ok (.iload_n 3, 1) := by decide +kernel
theorem dX2_layItem_90 : decode cX2_layItem 90 = .ok (.iload 5, 2) := by decide +kernel
theorem dX2_layItem_92 : decode cX2_layItem 92 = .ok (.iadd, 1) := by decide +kernel
theorem dX2_layItem_93 : decode cX2_layItem 93 = .ok (.invokestatic 77, 3) := by decide +kernel
theorem dX2_layItem_96 : decode cX2_layItem 96 = .ok (.iastore, 1) := by decide +kernel
theorem dX2_layItem_97 : decode cX2_layItem 97 = .ok (.aload_n 0, 1) := by decide +kernel
theorem dX2_layItem_98 : decode cX2_layItem 98 = .ok (.getfield 21, 3) := by decide +kernel
theorem dX2_layItem_101 : decode cX2_layItem 101 = .ok (.iload 4, 2) := by decide +kernel
theorem dX2_layItem_103 : decode cX2_layItem 103 = .ok (.dup2, 1) := by decide +kernel
theorem dX2_layItem_104 : decode cX2_layItem 104 = .ok (.iaload, 1) := by decide +kernel
theorem dX2_layItem_105 : decode cX2_layItem 105 = .ok (.iconst 1, 1) := by decide +kernel
theorem dX2_layItem_106 : decode cX2_layItem 106 = .ok (.isub, 1) := by decide +kernel
theorem dX2_layItem_107 : decode cX2_layItem 107 = .ok (.iastore, 1) := by decide +kernel
theorem dX2_layItem_108 : decode cX2_layItem 108 = .ok (.iinc 4 1, 3) := by decide +kernel
theorem dX2_layItem_111 : decode cX2_layItem 111 = .ok (.goto (-58), 3) := by decide +kernel
theorem dX2_layItem_114 : decode cX2_layItem 114 = .ok (.return_, 1) := by decide +kernel
def fX2_layItem_53 : Nat → Int → Int → Int → Int → Int → V_ → Option (Int × V_)
  | 0, _, _, _, _, _, _ => none
  | n + 1, x0, x1, x2, x3, x4, v =>
    if (v x1 3) ≤ x4 then (
      some (0, v))
    else (
      bd_ (fX10_needOf x1 x2 x4 v) fun q19 =>
      if q19.1 < 0 then (
        lt_ (wr_ (x4 + 1)) fun y21 =>
        (fX2_layItem_53 n) x0 x1 x2 x3 y21 q19.2)
      else (
        ck_ (0 ≤ x4 ∧ x4 < 34) (
        ck_ (0 ≤ x4 ∧ x4 < 34) (
        lt_ (up_ q19.2 (x0 + 3) x4 (mx_ (q19.2 (x0 + 3) x4) (wr_ (x3 + q19.1)))) fun v26 =>
        ck_ (0 ≤ x4 ∧ x4 < 34) (
        ck_ (0 ≤ x4 ∧ x4 < 34) (
        lt_ (up_ v26 (x0 + 4) x4 (wr_ ((v26 (x0 + 4) x4) - 1))) fun v30 =>
        lt_ (wr_ (x4 + 1)) fun y31 =>
        (fX2_layItem_53 n) x0 x1 x2 x3 y31 v30))))))
def fX2_layItem (x0 x1 x2 x3 : Int) (v : V_) : Option (Int × V_) :=
  ck_ (0 ≤ x2 ∧ x2 < 34) (
  lt_ (up_ v (x0 + 1) x2 x3) fun v3 =>
  ck_ (0 ≤ v3 x0 5 ∧ v3 x0 5 < 34) (
  lt_ (up_ v3 (x0 + 2) (v3 x0 5) x2) fun v6 =>
  lt_ (up_ v6 x0 5 (wr_ ((v6 x0 5) + 1))) fun v7 =>
  ck_ (0 ≤ x2 ∧ x2 < 34) (
  bd_ (fX8_kindOf (((x1 + 2) + (5 + 2 * x2)) + 1) v7) fun q13 =>
  ck_ (0 ≤ q13.1 ∧ q13.1 < 4) (
  ck_ (0 ≤ q13.1 ∧ q13.1 < 4) (
  lt_ (up_ q13.2 (x0 + 5) q13.1 (wr_ ((q13.2 (x0 + 5) q13.1) - 1))) fun v16 =>
  lt_ (wr_ (x2 + 1)) fun y17 =>
  fX2_layItem_53 fu_ x0 x1 x2 x3 y17 v16)))))
section
variable {E : En_} {p : Program} {l : Launch} {e : Env} {s : State} {m : MethodId} {args : Array Value} {below : List Frame} {meth : Method} {c : Code} {sz : Int}
theorem tX2_layItem_53 (C : MC_ E p s m c cX2_layItem 6 RX2) (hr : meth.sig.returnType = (none : Option FieldType)) (hlk : meth.locks = false) (hC : Cl_ E.2.2.2.2.2 sz) {out : Int × V_} : ∀ (n : Nat) (x0 x1 x2 x3 x4 : Int) (v : V_), (E.2.2.2.2.2 x0 ∧ ty_ x0 = 2 ∧ ln_ x0 = 0) → (E.2.2.2.2.2 x1 ∧ ty_ x1 = 10 ∧ ln_ x1 = 0) → fX2_layItem_53 n x0 x1 x2 x3 x4 v = some out → G_ E p l e (rm_ 1 22) s m args below meth c 6 sz (Q_ E below args s sz sz 9 out.1 out.2) 53 [(0, (2, x0)), (1, (2, x1)), (2, (0, x2)), (3, (0, x3)), (4, (0, x4))] [] v sz := by
  intro n
  induction n with
  | zero =>
    intro x0 x1 x2 x3 x4 v T0 T1 h
    cases h
  | succ n H_53 =>
    intro x0 x1 x2 x3 x4 v T0 T1 h
    rw [fX2_layItem_53] at h
    refine g_iload C (i := 4) dX2_layItem_53 4 rfl ?_
    refine g_aload_n C (f := 1) dX2_layItem_55 1 rfl ?_
    refine g_getf C (k := 3) (kd := 0) okX10 (by decide) kf_RX2_35 dX2_layItem_56 (rg_ hC T1.1) T1.2.1 rfl ?_
    refine g_icmp_ge C 114 dX2_layItem_59 rfl (fun c18 => ?_) (fun c18 => ?_)
    · replace h := if_t h c18
      cases h
      exact g_vret C dX2_layItem_114 hr hlk
    · replace h := if_f h c18
      refine g_aload_n C (f := 1) dX2_layItem_62 1 rfl ?_
      refine g_iload_n C (f := 2) dX2_layItem_63 2 rfl ?_
      refine g_iload C (i := 4) dX2_layItem_64 4 rfl ?_
      obtain ⟨q19, eq19, h⟩ := bd_e h
      refine g_cV C [(0, x2), (0, x4)] (cX10_needOf_ok l hC T1 eq19) okX10 T1.2.1 (rg_ hC T1.1) km_RX2_54 cv_X10_needOf rfl (by decide) rfl rfl (Nat.le_of_ble_eq_true rfl) dX2_layItem_66 ?_
      refine g_istore C (i := 5) (ls' := [(5, (0, q19.1)), (0, (2, x0)), (1, (2, x1)), (2, (0, x2)), (3, (0, x3)), (4, (0, x4))]) dX2_layItem_69 (by decide) rfl ?_
      refine g_iload C (i := 5) dX2_layItem_71 0 rfl ?_
      refine g_if_lt C 108 dX2_layItem_73 rfl (fun c20 => ?_) (fun c20 => ?_)
      · replace h := if_t h c20
        obtain ⟨y21, ey21, h⟩ := lt_e h
        refine g_iincx C (ls' := [(4, (0, y21)), (5, (0, q19.1)), (0, (2, x0)), (1, (2, x1)), (2, (0, x2)), (3, (0, x3))]) ey21 dX2_layItem_108 5 rfl (by decide) (by decide) rfl ?_
        refine g_goto C 53 dX2_layItem_111 rfl ?_
        refine g_sub [2, 3, 4, 5, 0] rfl rfl ?_
        exact H_53 _ _ _ _ _ _ T0 T1 h
      · replace h := if_f h c20
        refine g_aload_n C (f := 0) dX2_layItem_76 1 rfl ?_
        have F22 := fX2_2 hC T0.1 T0.2.1
        refine g_getR C (k := 2) (o := 3) okX2 (by decide) kf_RX2_18 dX2_layItem_77 hC T0.1 T0.2.1 rfl rfl ?_
        refine g_iload C (i := 4) dX2_layItem_80 5 rfl ?_
        refine g_aload_n C (f := 0) dX2_layItem_82 1 rfl ?_
        have F23 := fX2_2 hC T0.1 T0.2.1
        refine g_getR C (k := 2) (o := 3) okX2 (by decide) kf_RX2_18 dX2_layItem_83 hC T0.1 T0.2.1 rfl rfl ?_
        refine g_iload C (i := 4) dX2_layItem_86 5 rfl ?_
        obtain ⟨c24, h⟩ := ck_e h
        refine g_iald C 34 dX2_layItem_88 (rg_ hC F23.1) F23.2.1 F23.2.2 c24 ?_
        refine g_iload_n C (f := 3) dX2_layItem_89 4 rfl ?_
        refine g_iload C (i := 5) dX2_layItem_90 0 rfl ?_
        refine g_iadd C dX2_layItem_92 ?_
        refine g_max0 C km_RX2_77 dX2_layItem_93 ⟨Nat.le_of_ble_eq_true rfl, Nat.le_of_ble_eq_true rfl⟩ ?_
        obtain ⟨c25, h⟩ := ck_e h
        obtain ⟨v26, ev26, h⟩ := lt_e h
        refine g_iast C 34 dX2_layItem_96 (rg_ hC F22.1) F22.2.1 F22.2.2 c25 v26 ev26 ?_
        refine g_aload_n C (f := 0) dX2_layItem_97 1 rfl ?_
        have F27 := fX2_3 hC T0.1 T0.2.1
        refine g_getR C (k := 3) (o := 4) okX2 (by decide) kf_RX2_21 dX2_layItem_98 hC T0.1 T0.2.1 rfl rfl ?_
        refine g_iload C (i := 4) dX2_layItem_101 5 rfl ?_
        refine g_dup2 C (Nat.ne_of_beq_eq_false rfl) (Nat.ne_of_beq_eq_false rfl) dX2_layItem_103 ?_
        obtain ⟨c28, h⟩ := ck_e h
        refine g_iald C 34 dX2_layItem_104 (rg_ hC F27.1) F27.2.1 F27.2.2 c28 ?_
        refine g_iconst C (n := 1) dX2_layItem_105 (by decide) ?_
        refine g_isub C dX2_layItem_106 ?_
        obtain ⟨c29, h⟩ := ck_e h
        obtain ⟨v30, ev30, h⟩ := lt_e h
        refine g_iast C 34 dX2_layItem_107 (rg_ hC F27.1) F27.2.1 F27.2.2 c29 v30 ev30 ?_
        obtain ⟨y31, ey31, h⟩ := lt_e h
        refine g_iincx C (ls' := [(4, (0, y31)), (5, (0, q19.1)), (0, (2, x0)), (1, (2, x1)), (2, (0, x2)), (3, (0, x3))]) ey31 dX2_layItem_108 5 rfl (by decide) (by decide) rfl ?_
        refine g_goto C 53 dX2_layItem_111 rfl ?_
        refine g_sub [2, 3, 4, 5, 0] rfl rfl ?_
        exact H_53 _ _ _ _ _ _ T0 T1 h
end
theorem cX2_layItem_ok (l : Launch) {E : En_} {sz : Int} (hC : Cl_ E.2.2.2.2.2 sz) {x0 x1 x2 x3 : Int} {v : V_} {out : Int × V_} (T0 : (E.2.2.2.2.2 x0 ∧ ty_ x0 = 2 ∧ ln_ x0 = 0)) (T1 : (E.2.2.2.2.2 x1 ∧ ty_ x1 = 10 ∧ ln_ x1 = 0)) (h : fX2_layItem x0 x1 x2 x3 v = some out) : Met l yX2_layItem [.code yX2_layItem cX2_layItem 6 (none : Option FieldType)] (rm_ 1 22) (Pc_ E sz v [(2, x0), (2, x1), (0, x2), (0, x3)]) (Qc_ E sz 9 out.1 out.2) 0 0 (fun q => E.1 < q) := by
  refine met_G0 RX2 (by decide +kernel) rfl (Nat.le_of_ble_eq_true rfl) ?_
  intro p e s m args below meth c C hr hlk
  rw [fX2_layItem] at h
  refine g_aload_n C (f := 0) dX2_layItem_0 0 rfl ?_
  have F1 := fX2_0 hC T0.1 T0.2.1
  refine g_getR C (k := 0) (o := 1) okX2 (by decide) kf_RX2_9 dX2_layItem_1 hC T0.1 T0.2.1 rfl rfl ?_
  refine g_iload_n C (f := 2) dX2_layItem_4 2 rfl ?_
  refine g_iload_n C (f := 3) dX2_layItem_5 3 rfl ?_
  obtain ⟨c2, h⟩ := ck_e h
  obtain ⟨v3, ev3, h⟩ := lt_e h
  refine g_iast C 34 dX2_layItem_6 (rg_ hC F1.1) F1.2.1 F1.2.2 c2 v3 ev3 ?_
  refine g_aload_n C (f := 0) dX2_layItem_7 0 rfl ?_
  have F4 := fX2_1 hC T0.1 T0.2.1
  refine g_getR C (k := 1) (o := 2) okX2 (by decide) kf_RX2_15 dX2_layItem_8 hC T0.1 T0.2.1 rfl rfl ?_
  refine g_aload_n C (f := 0) dX2_layItem_11 0 rfl ?_
  refine g_getf C (k := 5) (kd := 0) okX2 (by decide) kf_RX2_31 dX2_layItem_12 (rg_ hC T0.1) T0.2.1 rfl ?_
  refine g_iload_n C (f := 2) dX2_layItem_15 2 rfl ?_
  obtain ⟨c5, h⟩ := ck_e h
  obtain ⟨v6, ev6, h⟩ := lt_e h
  refine g_iast C 34 dX2_layItem_16 (rg_ hC F4.1) F4.2.1 F4.2.2 c5 v6 ev6 ?_
  refine g_aload_n C (f := 0) dX2_layItem_17 0 rfl ?_
  refine g_dup C (Nat.ne_of_beq_eq_false rfl) dX2_layItem_18 ?_
  refine g_getf C (k := 5) (kd := 0) okX2 (by decide) kf_RX2_31 dX2_layItem_19 (rg_ hC T0.1) T0.2.1 rfl ?_
  refine g_iconst C (n := 1) dX2_layItem_22 (by decide) ?_
  refine g_iadd C dX2_layItem_23 ?_
  obtain ⟨v7, ev7, h⟩ := lt_e h
  refine g_putf C (k := 5) (kd := 0) okX2 (by decide) kf_RX2_31 dX2_layItem_24 (rg_ hC T0.1) T0.2.1 rfl rfl nvI (Or.inl rfl) v7 ev7 ?_
  refine g_aload_n C (f := 0) dX2_layItem_27 0 rfl ?_
  have F8 := fX2_4 hC T0.1 T0.2.1
  refine g_getR C (k := 4) (o := 5) okX2 (by decide) kf_RX2_24 dX2_layItem_28 hC T0.1 T0.2.1 rfl rfl ?_
  refine g_aload_n C (f := 1) dX2_layItem_31 1 rfl ?_
  have F9 := fX10_2 hC T1.1 T1.2.1
  refine g_getR C (k := 2) (o := 2) okX10 (by decide) kf_RX2_58 dX2_layItem_32 hC T1.1 T1.2.1 rfl rfl ?_
  refine g_iload_n C (f := 2) dX2_layItem_35 2 rfl ?_
  obtain ⟨c10, h⟩ := ck_e h
  have F11 := fE_items (i := x2) hC F9.1 F9.2.1 F9.2.2 c10
  refine g_aald C 26 34 5 2 dX2_layItem_36 hC F9.1 F9.2.1 F9.2.2 c10 (by decide) oA_items ?_
  have F12 := fX1_0 hC F11.1 F11.2.1
  refine g_getR C (k := 0) (o := 1) okX1 (by decide) kf_RX2_62 dX2_layItem_37 hC F11.1 F11.2.1 rfl rfl ?_
  obtain ⟨q13, eq13, h⟩ := bd_e h
  refine g_cV C [] (cX8_kindOf_ok l hC F12 eq13) okX8 F12.2.1 (rg_ hC F12.1) km_RX2_68 cv_X8_kindOf rfl (by decide) rfl rfl (Nat.le_of_ble_eq_true rfl) dX2_layItem_40 ?_
  refine g_dup2 C (Nat.ne_of_beq_eq_false rfl) (Nat.ne_of_beq_eq_false rfl) dX2_layItem_43 ?_
  obtain ⟨c14, h⟩ := ck_e h
  refine g_iald C 4 dX2_layItem_44 (rg_ hC F8.1) F8.2.1 F8.2.2 c14 ?_
  refine g_iconst C (n := 1) dX2_layItem_45 (by decide) ?_
  refine g_isub C dX2_layItem_46 ?_
  obtain ⟨c15, h⟩ := ck_e h
  obtain ⟨v16, ev16, h⟩ := lt_e h
  refine g_iast C 4 dX2_layItem_47 (rg_ hC F8.1) F8.2.1 F8.2.2 c15 v16 ev16 ?_
  refine g_iload_n C (f := 2) dX2_layItem_48 2 rfl ?_
  refine g_iconst C (n := 1) dX2_layItem_49 (by decide) ?_
  refine g_iadd C dX2_layItem_50 ?_
  obtain ⟨y17, ey17, h⟩ := lt_e h
  refine g_set C ey17 ?_
  refine g_istore C (i := 4) (ls' := [(4, (0, y17)), (0, (2, x0)), (1, (2, x1)), (2, (0, x2)), (3, (0, x3))]) dX2_layItem_51 (by decide) rfl ?_
  refine g_sub [1, 2, 3, 4, 0] rfl rfl ?_
  exact tX2_layItem_53 C hr hlk hC _ _ _ _ _ _ _ T0 T1 h
theorem dX2_lay_0 : decode cX2_lay 0 = .ok (.aload_n 0, 1) := by decide +kernel
theorem dX2_lay_1 : decode cX2_lay 1 = .ok (.aload_n 1, 1) := by decide +kernel
theorem dX2_lay_2 : decode cX2_lay 2 = .ok (.invokevirtual 27, 3) := by decide +kernel
theorem dX2_lay_5 : decode cX2_lay 5 = .ok (.iconst 0, 1) := by decide +kernel
theorem dX2_lay_6 : decode cX2_lay 6 = .ok (.istore_n 3, 1) := by decide +kernel
theorem dX2_lay_7 : decode cX2_lay 7 = .ok (.iload_n 3, 1) := by decide +kernel
theorem dX2_lay_8 : decode cX2_lay 8 = .ok (.sipush 10000, 3) := by decide +kernel
theorem dX2_lay_11 : decode cX2_lay 11 = .ok (.if_icmp .ge 79, 3) := by decide +kernel
theorem dX2_lay_14 : decode cX2_lay 14 = .ok (.aload_n 0, 1) := by decide +kernel
theorem dX2_lay_15 : decode cX2_lay 15 = .ok (.getfield 31, 3) := by decide +kernel
theorem dX2_lay_18 : decode cX2_lay 18 = .ok (.aload_n 1, 1) := by decide +kernel
theorem dX2_lay_19 : decode cX2_lay 19 = .ok (.getfield 35, 3) := by decide +kernel
theorem dX2_lay_22 : decode cX2_lay 22 = .ok (.if_icmp .ge 68, 3) := by decide +kernel
theorem dX2_lay_25 : decode cX2_lay 25 = .ok (.aload_n 2, 1) := by decide +kernel
theorem dX2_lay_26 : decode cX2_lay 26 = .ok (.iconst 0, 1) := by decide +kernel
theorem dX2_lay_27 : decode cX2_lay 27 = .ok (.aload_n 0, 1) := by decide +kernel
theorem dX2_lay_28 : decode cX2_lay 28 = .ok (.getfield 24, 3) := by decide +kernel
theorem dX2_lay_31 : decode cX2_lay 31 = .ok (.iconst 0, 1) := by decide +kernel
theorem dX2_lay_32 : decode cX2_lay 32 = .ok (.iconst 4, 1) := by decide +kernel
theorem dX2_lay_33 : decode cX2_lay 33 = .ok (.invokestatic 40, 3) := by decide +kernel
theorem dX2_lay_36 : decode cX2_lay 36 = .ok (.aload_n 0, 1) := by decide +kernel
theorem dX2_lay_37 : decode cX2_lay 37 = .ok (.aload_n 1, 1) := by decide +kernel
theorem dX2_lay_38 : decode cX2_lay 38 = .ok (.iload_n 3, 1) := by decide +kernel
theorem dX2_lay_39 : decode cX2_lay 39 = .ok (.invokevirtual 46, 3) := by decide +kernel
theorem dX2_lay_42 : decode cX2_lay 42 = .ok (.istore 4, 2) := by decide +kernel
theorem dX2_lay_44 : decode cX2_lay 44 = .ok (.iconst 0, 1) := by decide +kernel
theorem dX2_lay_45 : decode cX2_lay 45 = .ok (.istore 5, 2) := by decide +kernel
theorem dX2_lay_47 : decode cX2_lay 47 = .ok (.iload 5, 2) := by decide +kernel
theorem dX2_lay_49 : decode cX2_lay 49 = .ok (.aload_n 1, 1) := by decide +kernel
theorem dX2_lay_50 : decode cX2_lay 50 = .ok (.getfield 35, 3) := by decide +kernel
theorem dX2_lay_53 : decode cX2_lay 53 = .ok (.if_icmp .ge 31, 3) := by decide +kernel
theorem dX2_lay_56 : decode cX2_lay 56 = .ok (.iload 4, 2) := by decide +kernel
theorem dX2_lay_58 : decode cX2_lay 58 = .ok (.iconst (-1), 1) := by decide +kernel
theorem dX2_lay_59 : decode cX2_lay 59 = .ok (.if_icmp .eq 25, 3) := by decide +kernel
theorem dX2_lay_62 : decode cX2_lay 62 = .ok (.aload_n 0, 1) := by decide +kernel
theorem dX2_lay_63 : decode cX2_lay 63 = .ok (.aload_n 1, 1) := by decide +kernel
theorem dX2_lay_64 : decode cX2_lay 64 = .ok (.iload 4, 2) := by decide +kernel
theorem dX2_lay_66 : decode cX2_lay 66 = .ok (.iload_n 3, 1) := by decide +kernel
theorem dX2_lay_67 : decode cX2_lay 67 = .ok (.invokevirtual 50, 3) := by decide +kernel
theorem dX2_lay_70 : decode cX2_lay 70 = .ok (.aload_n 0, 1) := by decide +kernel
theorem dX2_lay_71 : decode cX2_lay 71 = .ok (.aload_n 1, 1) := by decide +kernel
theorem dX2_lay_72 : decode cX2_lay 72 = .ok (.iload_n 3, 1) := by decide +kernel
theorem dX2_lay_73 : decode cX2_lay 73 = .ok (.invokevirtual 46, 3) := by decide +kernel
theorem dX2_lay_76 : decode cX2_lay 76 = .ok (.istore 4, 2) := by decide +kernel
theorem dX2_lay_78 : decode cX2_lay 78 = .ok (.iinc 5 1, 3) := by decide +kernel
theorem dX2_lay_81 : decode cX2_lay 81 = .ok (.goto (-34), 3) := by decide +kernel
theorem dX2_lay_84 : decode cX2_lay 84 = .ok (.iinc 3 1, 3) := by decide +kernel
theorem dX2_lay_87 : decode cX2_lay 87 = .ok (.goto (-80), 3) := by decide +kernel
theorem dX2_lay_90 : decode cX2_lay 90 = .ok (.aload_n 1, 1) := by decide +kernel
theorem dX2_lay_91 : decode cX2_lay 91 = .ok (.getfield 35, 3) := by decide +kernel
theorem dX2_lay_94 : decode cX2_lay 94 = .ok (.ifCond .le 19, 3) := by decide +kernel
theorem dX2_lay_97 : decode cX2_lay 97 = .ok (.aload_n 0, 1) := by decide +kernel
theorem dX2_lay_98 : decode cX2_lay 98 = .ok (.getfield 9, 3) := by decide +kernel
theorem dX2_lay_101 : decode cX2_lay 101 = .ok (.aload_n 1, 1) := by decide +kernel
theorem dX2_lay_102 : decode cX2_lay 102 = .ok (.getfield 35, 3) := by decide +kernel
theorem dX2_lay_105 : decode cX2_lay 105 = .ok (.iconst 1, 1) := by decide +kernel
theorem dX2_lay_106 : decode cX2_lay 106 = .ok (.isub, 1) := by decide +kernel
theorem dX2_lay_107 : decode cX2_lay 107 = .ok (.iaload, 1) := by decide +kernel
theorem dX2_lay_108 : decode cX2_lay 108 = .ok (.iconst 1, 1) := by decide +kernel
theorem dX2_lay_109 : decode cX2_lay 109 = .ok (.iadd, 1) := by decide +kernel
theorem dX2_lay_110 : decode cX2_lay 110 = .ok (.goto 4, 3) := by decide +kernel
theorem dX2_lay_113 : decode cX2_lay 113 = .ok (.iconst 0, 1) := by decide +kernel
theorem dX2_lay_114 : decode cX2_lay 114 = .ok (.ireturn, 1) := by decide +kernel
def fX2_lay_90 (x0 x1 : Int) (v : V_) : Option (Int × V_) :=
  if (v x1 3) ≤ 0 then (
    some (0, v))
  else (
    ck_ (0 ≤ wr_ ((v x1 3) - 1) ∧ wr_ ((v x1 3) - 1) < 34) (
    some (wr_ ((v (x0 + 1) (wr_ ((v x1 3) - 1))) + 1), v)))
def fX2_lay_47 (k7 : Int → Int → Int → Int → V_ → Option (Int × V_)) : Nat → Int → Int → Int → Int → Int → Int → V_ → Option (Int × V_)
  | 0, _, _, _, _, _, _, _ => none
  | n + 1, x0, x1, x2, x3, x4, x5, v =>
    if (v x1 3) ≤ x5 then (
      lt_ (wr_ (x3 + 1)) fun y11 =>
      k7 x0 x1 x2 y11 v)
    else (
      if x4 = (-1) then (
        lt_ (wr_ (x3 + 1)) fun y13 =>
        k7 x0 x1 x2 y13 v)
      else (
        bd_ (fX2_layItem x0 x1 x4 x3 v) fun q14 =>
        bd_ (fX2_choose x0 x1 x3 q14.2) fun q15 =>
        lt_ (wr_ (x5 + 1)) fun y16 =>
        (fX2_lay_47 k7 n) x0 x1 x2 x3 q15.1 y16 q15.2))
def fX2_lay_7 : Nat → Int → Int → Int → Int → V_ → Option (Int × V_)
  | 0, _, _, _, _, _ => none
  | n + 1, x0, x1, x2, x3, v =>
    if 10000 ≤ x3 then (
      fX2_lay_90 x0 x1 v)
    else (
      if (v x1 3) ≤ (v x0 5) then (
        fX2_lay_90 x0 x1 v)
      else (
        lt_ (cp_ v x2 0 (x0 + 5) 0 4) fun v8 =>
        bd_ (fX2_choose x0 x1 x3 v8) fun q9 =>
        fX2_lay_47 (fX2_lay_7 n) fu_ x0 x1 x2 x3 q9.1 0 q9.2))
def fX2_lay (x0 x1 x2 : Int) (v : V_) : Option (Int × V_) :=
  bd_ (fX2_begin x0 x1 v) fun q1 =>
  fX2_lay_7 fu_ x0 x1 x2 0 q1.2
section
variable {E : En_} {p : Program} {l : Launch} {e : Env} {s : State} {m : MethodId} {args : Array Value} {below : List Frame} {meth : Method} {c : Code} {sz : Int}
theorem tX2_lay_90 (C : MC_ E p s m c cX2_lay 6 RX2) (hr : meth.sig.returnType = (some FieldType.int)) (hlk : meth.locks = false) (hC : Cl_ E.2.2.2.2.2 sz) {out : Int × V_} (x0 x1 : Int) (v : V_) (T0 : (E.2.2.2.2.2 x0 ∧ ty_ x0 = 2 ∧ ln_ x0 = 0)) (T1 : (E.2.2.2.2.2 x1 ∧ ty_ x1 = 10 ∧ ln_ x1 = 0)) (h : fX2_lay_90 x0 x1 v = some out) : G_ E p l e (rm_ 2 47) s m args below meth c 6 sz (Q_ E below args s sz sz 0 out.1 out.2) 90 [(0, (2, x0)), (1, (2, x1))] [] v sz := by
  rw [fX2_lay_90] at h
  refine g_aload_n C (f := 1) dX2_lay_90 1 rfl ?_
  refine g_getf C (k := 3) (kd := 0) okX10 (by decide) kf_RX2_35 dX2_lay_91 (rg_ hC T1.1) T1.2.1 rfl ?_
  refine g_if_le C 113 dX2_lay_94 rfl (fun c3 => ?_) (fun c3 => ?_)
  · replace h := if_t h c3
    refine g_iconst C (n := 0) dX2_lay_113 (by decide) ?_
    cases h
    exact g_iret C dX2_lay_114 hr hlk
  · replace h := if_f h c3
    refine g_aload_n C (f := 0) dX2_lay_97 0 rfl ?_
    have F4 := fX2_0 hC T0.1 T0.2.1
    refine g_getR C (k := 0) (o := 1) okX2 (by decide) kf_RX2_9 dX2_lay_98 hC T0.1 T0.2.1 rfl rfl ?_
    refine g_aload_n C (f := 1) dX2_lay_101 1 rfl ?_
    refine g_getf C (k := 3) (kd := 0) okX10 (by decide) kf_RX2_35 dX2_lay_102 (rg_ hC T1.1) T1.2.1 rfl ?_
    refine g_iconst C (n := 1) dX2_lay_105 (by decide) ?_
    refine g_isub C dX2_lay_106 ?_
    obtain ⟨c5, h⟩ := ck_e h
    refine g_iald C 34 dX2_lay_107 (rg_ hC F4.1) F4.2.1 F4.2.2 c5 ?_
    refine g_iconst C (n := 1) dX2_lay_108 (by decide) ?_
    refine g_iadd C dX2_lay_109 ?_
    refine g_goto C 114 dX2_lay_110 rfl ?_
    cases h
    exact g_iret C dX2_lay_114 hr hlk
theorem tX2_lay_47 (C : MC_ E p s m c cX2_lay 6 RX2) (hr : meth.sig.returnType = (some FieldType.int)) (hlk : meth.locks = false) (hC : Cl_ E.2.2.2.2.2 sz) {out : Int × V_} (k7 : Int → Int → Int → Int → V_ → Option (Int × V_)) (H_7 : ∀ (x0 x1 x2 x3 : Int) (v : V_), (E.2.2.2.2.2 x0 ∧ ty_ x0 = 2 ∧ ln_ x0 = 0) → (E.2.2.2.2.2 x1 ∧ ty_ x1 = 10 ∧ ln_ x1 = 0) → (E.2.2.2.2.2 x2 ∧ ty_ x2 = 20 ∧ ln_ x2 = 4) → k7 x0 x1 x2 x3 v = some out → G_ E p l e (rm_ 2 47) s m args below meth c 6 sz (Q_ E below args s sz sz 0 out.1 out.2) 7 [(0, (2, x0)), (1, (2, x1)), (2, (2, x2)), (3, (0, x3))] [] v sz) : ∀ (n : Nat) (x0 x1 x2 x3 x4 x5 : Int) (v : V_), (E.2.2.2.2.2 x0 ∧ ty_ x0 = 2 ∧ ln_ x0 = 0) → (E.2.2.2.2.2 x1 ∧ ty_ x1 = 10 ∧ ln_ x1 = 0) → (E.2.2.2.2.2 x2 ∧ ty_ x2 = 20 ∧ ln_ x2 = 4) → fX2_lay_47 k7 n x0 x1 x2 x3 x4 x5 v = some out → G_ E p l e (rm_ 2 47) s m args below meth c 6 sz (Q_ E below args s sz sz 0 out.1 out.2) 47 [(0, (2, x0)), (1, (2, x1)), (2, (2, x2)), (3, (0, x3)), (4, (0, x4)), (5, (0, x5))] [] v sz := by
  intro n
  induction n with
  | zero =>
    intro x0 x1 x2 x3 x4 x5 v T0 T1 T2 h
    cases h
  | succ n H_47 =>
    intro x0 x1 x2 x3 x4 x5 v T0 T1 T2 h
    rw [fX2_lay_47] at h
    refine g_iload C (i := 5) dX2_lay_47 5 rfl ?_
    refine g_aload_n C (f := 1) dX2_lay_49 1 rfl ?_
    refine g_getf C (k := 3) (kd := 0) okX10 (by decide) kf_RX2_35 dX2_lay_50 (rg_ hC T1.1) T1.2.1 rfl ?_
    refine g_icmp_ge C 84 dX2_lay_53 rfl (fun c10 => ?_) (fun c10 => ?_)
    · replace h := if_t h c10
      obtain ⟨y11, ey11, h⟩ := lt_e h
      refine g_iincx C (ls' := [(3, (0, y11)), (0, (2, x0)), (1, (2, x1)), (2, (2, x2)), (4, (0, x4)), (5, (0, x5))]) ey11 dX2_lay_84 3 rfl (by decide) (by decide) rfl ?_
      refine g_goto C 7 dX2_lay_87 rfl ?_
      refine g_sub [1, 2, 3, 0] rfl rfl ?_
      exact H_7 _ _ _ _ _ T0 T1 T2 h
    · replace h := if_f h c10
      refine g_iload C (i := 4) dX2_lay_56 4 rfl ?_
      refine g_iconst C (n := (-1)) dX2_lay_58 (by decide) ?_
      refine g_icmp_eq C 84 dX2_lay_59 rfl (fun c12 => ?_) (fun c12 => ?_)
      · replace h := if_t h c12
        obtain ⟨y13, ey13, h⟩ := lt_e h
        refine g_iincx C (ls' := [(3, (0, y13)), (0, (2, x0)), (1, (2, x1)), (2, (2, x2)), (4, (0, x4)), (5, (0, x5))]) ey13 dX2_lay_84 3 rfl (by decide) (by decide) rfl ?_
        refine g_goto C 7 dX2_lay_87 rfl ?_
        refine g_sub [1, 2, 3, 0] rfl rfl ?_
        exact H_7 _ _ _ _ _ T0 T1 T2 h
      · replace h := if_f h c12
        refine g_aload_n C (f := 0) dX2_lay_62 0 rfl ?_
        refine g_aload_n C (f := 1) dX2_lay_63 1 rfl ?_
        refine g_iload C (i := 4) dX2_lay_64 4 rfl ?_
        refine g_iload_n C (f := 3) dX2_lay_66 3 rfl ?_
        obtain ⟨q14, eq14, h⟩ := bd_e h
        refine g_cV C [(2, x1), (0, x4), (0, x3)] (cX2_layItem_ok l hC T0 T1 eq14) okX2 T0.2.1 (rg_ hC T0.1) km_RX2_50 cv_X2_layItem rfl (by decide) rfl rfl (Nat.le_of_ble_eq_true rfl) dX2_lay_67 ?_
        refine g_aload_n C (f := 0) dX2_lay_70 0 rfl ?_
        refine g_aload_n C (f := 1) dX2_lay_71 1 rfl ?_
        refine g_iload_n C (f := 3) dX2_lay_72 3 rfl ?_
        obtain ⟨q15, eq15, h⟩ := bd_e h
        refine g_cV C [(2, x1), (0, x3)] (cX2_choose_ok l hC T0 T1 eq15) okX2 T0.2.1 (rg_ hC T0.1) km_RX2_46 cv_X2_choose rfl (by decide) rfl rfl (Nat.le_of_ble_eq_true rfl) dX2_lay_73 ?_
        refine g_istore C (i := 4) (ls' := [(4, (0, q15.1)), (0, (2, x0)), (1, (2, x1)), (2, (2, x2)), (3, (0, x3)), (5, (0, x5))]) dX2_lay_76 (by decide) rfl ?_
        obtain ⟨y16, ey16, h⟩ := lt_e h
        refine g_iincx C (ls' := [(5, (0, y16)), (4, (0, q15.1)), (0, (2, x0)), (1, (2, x1)), (2, (2, x2)), (3, (0, x3))]) ey16 dX2_lay_78 5 rfl (by decide) (by decide) rfl ?_
        refine g_goto C 47 dX2_lay_81 rfl ?_
        refine g_sub [2, 3, 4, 5, 1, 0] rfl rfl ?_
        exact H_47 _ _ _ _ _ _ _ T0 T1 T2 h
theorem tX2_lay_7 (C : MC_ E p s m c cX2_lay 6 RX2) (hr : meth.sig.returnType = (some FieldType.int)) (hlk : meth.locks = false) (hC : Cl_ E.2.2.2.2.2 sz) {out : Int × V_} : ∀ (n : Nat) (x0 x1 x2 x3 : Int) (v : V_), (E.2.2.2.2.2 x0 ∧ ty_ x0 = 2 ∧ ln_ x0 = 0) → (E.2.2.2.2.2 x1 ∧ ty_ x1 = 10 ∧ ln_ x1 = 0) → (E.2.2.2.2.2 x2 ∧ ty_ x2 = 20 ∧ ln_ x2 = 4) → fX2_lay_7 n x0 x1 x2 x3 v = some out → G_ E p l e (rm_ 2 47) s m args below meth c 6 sz (Q_ E below args s sz sz 0 out.1 out.2) 7 [(0, (2, x0)), (1, (2, x1)), (2, (2, x2)), (3, (0, x3))] [] v sz := by
  intro n
  induction n with
  | zero =>
    intro x0 x1 x2 x3 v T0 T1 T2 h
    cases h
  | succ n H_7 =>
    intro x0 x1 x2 x3 v T0 T1 T2 h
    rw [fX2_lay_7] at h
    refine g_iload_n C (f := 3) dX2_lay_7 3 rfl ?_
    refine g_sipush C (n := 10000) dX2_lay_8 (by decide) ?_
    refine g_icmp_ge C 90 dX2_lay_11 rfl (fun c2 => ?_) (fun c2 => ?_)
    · replace h := if_t h c2
      refine g_sub [0, 1] rfl rfl ?_
      exact tX2_lay_90 C hr hlk hC _ _ _ T0 T1 h
    · replace h := if_f h c2
      refine g_aload_n C (f := 0) dX2_lay_14 0 rfl ?_
      refine g_getf C (k := 5) (kd := 0) okX2 (by decide) kf_RX2_31 dX2_lay_15 (rg_ hC T0.1) T0.2.1 rfl ?_
      refine g_aload_n C (f := 1) dX2_lay_18 1 rfl ?_
      refine g_getf C (k := 3) (kd := 0) okX10 (by decide) kf_RX2_35 dX2_lay_19 (rg_ hC T1.1) T1.2.1 rfl ?_
      refine g_icmp_ge C 90 dX2_lay_22 rfl (fun c6 => ?_) (fun c6 => ?_)
      · replace h := if_t h c6
        refine g_sub [0, 1] rfl rfl ?_
        exact tX2_lay_90 C hr hlk hC _ _ _ T0 T1 h
      · replace h := if_f h c6
        refine g_aload_n C (f := 2) dX2_lay_25 2 rfl ?_
        refine g_iconst C (n := 0) dX2_lay_26 (by decide) ?_
        refine g_aload_n C (f := 0) dX2_lay_27 0 rfl ?_
        have F7 := fX2_4 hC T0.1 T0.2.1
        refine g_getR C (k := 4) (o := 5) okX2 (by decide) kf_RX2_24 dX2_lay_28 hC T0.1 T0.2.1 rfl rfl ?_
        refine g_iconst C (n := 0) dX2_lay_31 (by decide) ?_
        refine g_iconst C (n := 4) dX2_lay_32 (by decide) ?_
        obtain ⟨v8, ev8, h⟩ := lt_e h
        refine g_copy C km_RX2_40 4 4 dX2_lay_33 (rg_ hC T2.1) T2.2.1 T2.2.2 (rg_ hC F7.1) F7.2.1 F7.2.2 (by decide) ⟨Nat.le_of_ble_eq_true rfl, Nat.le_of_ble_eq_true rfl⟩ v8 ev8 ?_
        refine g_aload_n C (f := 0) dX2_lay_36 0 rfl ?_
        refine g_aload_n C (f := 1) dX2_lay_37 1 rfl ?_
        refine g_iload_n C (f := 3) dX2_lay_38 3 rfl ?_
        obtain ⟨q9, eq9, h⟩ := bd_e h
        refine g_cV C [(2, x1), (0, x3)] (cX2_choose_ok l hC T0 T1 eq9) okX2 T0.2.1 (rg_ hC T0.1) km_RX2_46 cv_X2_choose rfl (by decide) rfl rfl (Nat.le_of_ble_eq_true rfl) dX2_lay_39 ?_
        refine g_istore C (i := 4) (ls' := [(4, (0, q9.1)), (0, (2, x0)), (1, (2, x1)), (2, (2, x2)), (3, (0, x3))]) dX2_lay_42 (by decide) rfl ?_
        refine g_iconst C (n := 0) dX2_lay_44 (by decide) ?_
        refine g_istore C (i := 5) (ls' := [(5, (0, 0)), (4, (0, q9.1)), (0, (2, x0)), (1, (2, x1)), (2, (2, x2)), (3, (0, x3))]) dX2_lay_45 (by decide) rfl ?_
        refine g_sub [2, 3, 4, 5, 1, 0] rfl rfl ?_
        exact tX2_lay_47 C hr hlk hC _ H_7 _ _ _ _ _ _ _ _ T0 T1 T2 h
end
theorem cX2_lay_ok (l : Launch) {E : En_} {sz : Int} (hC : Cl_ E.2.2.2.2.2 sz) {x0 x1 x2 : Int} {v : V_} {out : Int × V_} (T0 : (E.2.2.2.2.2 x0 ∧ ty_ x0 = 2 ∧ ln_ x0 = 0)) (T1 : (E.2.2.2.2.2 x1 ∧ ty_ x1 = 10 ∧ ln_ x1 = 0)) (T2 : (E.2.2.2.2.2 x2 ∧ ty_ x2 = 20 ∧ ln_ x2 = 4)) (h : fX2_lay x0 x1 x2 v = some out) : Met l yX2_lay [.code yX2_lay cX2_lay 6 (some FieldType.int)] (rm_ 2 47) (Pc_ E sz v [(2, x0), (2, x1), (2, x2)]) (Qc_ E sz 0 out.1 out.2) 0 0 (fun q => E.1 < q) := by
  refine met_G0 RX2 (by decide +kernel) rfl (Nat.le_of_ble_eq_true rfl) ?_
  intro p e s m args below meth c C hr hlk
  rw [fX2_lay] at h
  refine g_aload_n C (f := 0) dX2_lay_0 0 rfl ?_
  refine g_aload_n C (f := 1) dX2_lay_1 1 rfl ?_
  obtain ⟨q1, eq1, h⟩ := bd_e h
  refine g_cV C [(2, x1)] (cX2_begin_ok l hC T0 T1 eq1) okX2 T0.2.1 (rg_ hC T0.1) km_RX2_27 cv_X2_begin rfl (by decide) rfl rfl (Nat.le_of_ble_eq_true rfl) dX2_lay_2 ?_
  refine g_iconst C (n := 0) dX2_lay_5 (by decide) ?_
  refine g_istore_n C (f := 3) (ls' := [(3, (0, 0)), (0, (2, x0)), (1, (2, x1)), (2, (2, x2))]) dX2_lay_6 (by decide) rfl ?_
  refine g_sub [1, 2, 3, 0] rfl rfl ?_
  exact tX2_lay_7 C hr hlk hC _ _ _ _ _ _ T0 T1 T2 h
theorem dX3_blockNamed_0 : decode cX3_blockNamed 0 = .ok (.iconst 0, 1) := by decide +kernel
theorem dX3_blockNamed_1 : decode cX3_blockNamed 1 = .ok (.istore 4, 2) := by decide +kernel
theorem dX3_blockNamed_3 : decode cX3_blockNamed 3 = .ok (.iload 4, 2) := by decide +kernel
theorem dX3_blockNamed_5 : decode cX3_blockNamed 5 = .ok (.iload_n 3, 1) := by decide +kernel
theorem dX3_blockNamed_6 : decode cX3_blockNamed 6 = .ok (.if_icmp .ge 31, 3) := by decide +kernel
theorem dX3_blockNamed_9 : decode cX3_blockNamed 9 = .ok (.iload 4, 2) := by decide +kernel
theorem dX3_blockNamed_11 : decode cX3_blockNamed 11 = .ok (.bipush 8, 2) := by decide +kernel
theorem dX3_blockNamed_13 : decode cX3_blockNamed 13 = .ok (.if_icmp .ge 24, 3) := by decide +kernel
theorem dX3_blockNamed_16 : decode cX3_blockNamed 16 = .ok (.aload_n 0, 1) := by decide +kernel
theorem dX3_blockNamed_17 : decode cX3_blockNamed 17 = .ok (.getfield 18, 3) := by decide +kernel
theorem dX3_blockNamed_20 : decode cX3_blockNamed 20 = .ok (.iload 4, 2) := by decide +kernel
theorem dX3_blockNamed_22 : decode cX3_blockNamed 22 = .ok (.laload, 1) := by decide +kernel
theorem dX3_blockNamed_23 : decode cX3_blockNamed 23 = .ok (.lload_n 1, 1) := by decide +kernel
theorem dX3_blockNamed_24 : decode cX3_blockNamed 24 = .ok (.lcmp, 1) := by decide +kernel
theorem dX3_blockNamed_25 : decode cX3_blockNamed 25 = .ok (.ifCond .ne 6, 3) := by decide +kernel
theorem dX3_blockNamed_28 : decode cX3_blockNamed 28 = .ok (.iload 4, 2) := by decide +kernel
theorem dX3_blockNamed_30 : decode cX3_blockNamed 30 = .ok (.ireturn, 1) := by decide +kernel
theorem dX3_blockNamed_31 : decode cX3_blockNamed 31 = .ok (.iinc 4 1, 3) := by decide +kernel
theorem dX3_blockNamed_34 : decode cX3_blockNamed 34 = .ok (.goto (-31), 3) := by decide +kernel
theorem dX3_blockNamed_37 : decode cX3_blockNamed 37 = .ok (.iconst (-1), 1) := by decide +kernel
theorem dX3_blockNamed_38 : decode cX3_blockNamed 38 = .ok (.ireturn, 1) := by decide +kernel
def fX3_blockNamed_3 : Nat → Int → Int → Int → Int → V_ → Option (Int × V_)
  | 0, _, _, _, _, _ => none
  | n + 1, x0, x1, x3, x4, v =>
    if x3 ≤ x4 then (
      some ((-1), v))
    else (
      if 8 ≤ x4 then (
        some ((-1), v))
      else (
        ck_ (0 ≤ x4 ∧ x4 < 8) (
        if (lc_ (v (x0 + 6) x4) x1) = 0 then (
          some (x4, v))
        else (
          lt_ (wr_ (x4 + 1)) fun y6 =>
          (fX3_blockNamed_3 n) x0 x1 x3 y6 v))))
def fX3_blockNamed (x0 x1 x3 : Int) (v : V_) : Option (Int × V_) :=
  fX3_blockNamed_3 fu_ x0 x1 x3 0 v
section
variable {E : En_} {p : Program} {l : Launch} {e : Env} {s : State} {m : MethodId} {args : Array Value} {below : List Frame} {meth : Method} {c : Code} {sz : Int}
theorem tX3_blockNamed_3 (C : MC_ E p s m c cX3_blockNamed 5 RX3) (hr : meth.sig.returnType = (some FieldType.int)) (hlk : meth.locks = false) (hC : Cl_ E.2.2.2.2.2 sz) (hG : Pg_ E.2.2.2.2.2) {out : Int × V_} : ∀ (n : Nat) (x0 x1 x3 x4 : Int) (v : V_), (E.2.2.2.2.2 x0 ∧ ty_ x0 = 3 ∧ ln_ x0 = 0) → fX3_blockNamed_3 n x0 x1 x3 x4 v = some out → G_ E p l e (rm_ 0 0) s m args below meth c 5 sz (Q_ E below args s sz sz 0 out.1 out.2) 3 [(0, (2, x0)), (1, (1, x1)), (3, (0, x3)), (4, (0, x4))] [] v sz := by
  intro n
  induction n with
  | zero =>
    intro x0 x1 x3 x4 v T0 h
    cases h
  | succ n H_3 =>
    intro x0 x1 x3 x4 v T0 h
    rw [fX3_blockNamed_3] at h
    refine g_iload C (i := 4) dX3_blockNamed_3 3 rfl ?_
    refine g_iload_n C (f := 3) dX3_blockNamed_5 2 rfl ?_
    refine g_icmp_ge C 37 dX3_blockNamed_6 rfl (fun c1 => ?_) (fun c1 => ?_)
    · replace h := if_t h c1
      refine g_iconst C (n := (-1)) dX3_blockNamed_37 (by decide) ?_
      cases h
      exact g_iret C dX3_blockNamed_38 hr hlk
    · replace h := if_f h c1
      refine g_iload C (i := 4) dX3_blockNamed_9 3 rfl ?_
      refine g_bipush C (n := 8) dX3_blockNamed_11 (by decide) ?_
      refine g_icmp_ge C 37 dX3_blockNamed_13 rfl (fun c2 => ?_) (fun c2 => ?_)
      · replace h := if_t h c2
        refine g_iconst C (n := (-1)) dX3_blockNamed_37 (by decide) ?_
        cases h
        exact g_iret C dX3_blockNamed_38 hr hlk
      · replace h := if_f h c2
        refine g_aload_n C (f := 0) dX3_blockNamed_16 0 rfl ?_
        have F3 := fX3_1 hC T0.1 T0.2.1
        refine g_getR C (k := 1) (o := 6) okX3 (by decide) kf_RX3_18 dX3_blockNamed_17 hC T0.1 T0.2.1 rfl rfl ?_
        refine g_iload C (i := 4) dX3_blockNamed_20 3 rfl ?_
        obtain ⟨c4, h⟩ := ck_e h
        refine g_lald C 8 dX3_blockNamed_22 (rg_ hC F3.1) F3.2.1 F3.2.2 c4 ?_
        refine g_lload_n C (f := 1) dX3_blockNamed_23 1 rfl ?_
        refine g_lcmp C dX3_blockNamed_24 ?_
        refine g_if_ne C 31 dX3_blockNamed_25 rfl (fun c5 => ?_) (fun c5 => ?_)
        · replace h := if_f h c5
          obtain ⟨y6, ey6, h⟩ := lt_e h
          refine g_iincx C (ls' := [(4, (0, y6)), (0, (2, x0)), (1, (1, x1)), (3, (0, x3))]) ey6 dX3_blockNamed_31 3 rfl (by decide) (by decide) rfl ?_
          refine g_goto C 3 dX3_blockNamed_34 rfl ?_
          refine g_sub [1, 2, 3, 0] rfl rfl ?_
          exact H_3 _ _ _ _ _ T0 h
        · replace h := if_t h c5
          refine g_iload C (i := 4) dX3_blockNamed_28 3 rfl ?_
          cases h
          exact g_iret C dX3_blockNamed_30 hr hlk
end
theorem cX3_blockNamed_ok (l : Launch) {E : En_} {sz : Int} (hC : Cl_ E.2.2.2.2.2 sz) (hG : Pg_ E.2.2.2.2.2) {x0 x1 x3 : Int} {v : V_} {out : Int × V_} (T0 : (E.2.2.2.2.2 x0 ∧ ty_ x0 = 3 ∧ ln_ x0 = 0)) (h : fX3_blockNamed x0 x1 x3 v = some out) : Met l yX3_blockNamed [.code yX3_blockNamed cX3_blockNamed 5 (some FieldType.int)] (rm_ 0 0) (Pc_ E sz v [(2, x0), (1, x1), (0, x3)]) (Qc_ E sz 0 out.1 out.2) 0 0 (fun q => E.1 < q) := by
  refine met_G0 RX3 (by decide +kernel) rfl (Nat.le_of_ble_eq_true rfl) ?_
  intro p e s m args below meth c C hr hlk
  rw [fX3_blockNamed] at h
  refine g_iconst C (n := 0) dX3_blockNamed_0 (by decide) ?_
  refine g_istore C (i := 4) (ls' := [(4, (0, 0)), (0, (2, x0)), (1, (1, x1)), (3, (0, x3))]) dX3_blockNamed_1 (by decide) rfl ?_
  refine g_sub [1, 2, 3, 0] rfl rfl ?_
  exact tX3_blockNamed_3 C hr hlk hC hG _ _ _ _ _ _ T0 h
theorem dX3_fail_0 : decode cX3_fail 0 = .ok (.aload_n 0, 1) := by decide +kernel
theorem dX3_fail_1 : decode cX3_fail 1 = .ok (.getfield 48, 3) := by decide +kernel
theorem dX3_fail_4 : decode cX3_fail 4 = .ok (.ifCond .ne 8, 3) := by decide +kernel
theorem dX3_fail_7 : decode cX3_fail 7 = .ok (.aload_n 0, 1) := by decide +kernel
theorem dX3_fail_8 : decode cX3_fail 8 = .ok (.iload_n 1, 1) := by decide +kernel
theorem dX3_fail_9 : decode cX3_fail 9 = .ok (.putfield 48, 3) := by decide +kernel
theorem dX3_fail_12 : decode cX3_fail 12 = .ok (.return_, 1) := by decide +kernel
def fX3_fail (x0 x1 : Int) (v : V_) : Option (Int × V_) :=
  if (v x0 6) = 0 then (
    lt_ (up_ v x0 6 x1) fun v2 =>
    some (0, v2))
  else (
    some (0, v))
theorem cX3_fail_ok (l : Launch) {E : En_} {sz : Int} (hC : Cl_ E.2.2.2.2.2 sz) (hG : Pg_ E.2.2.2.2.2) {x0 x1 : Int} {v : V_} {out : Int × V_} (T0 : (E.2.2.2.2.2 x0 ∧ ty_ x0 = 3 ∧ ln_ x0 = 0)) (h : fX3_fail x0 x1 v = some out) : Met l yX3_fail [.code yX3_fail cX3_fail 2 (none : Option FieldType)] (rm_ 0 0) (Pc_ E sz v [(2, x0), (0, x1)]) (Qc_ E sz 9 out.1 out.2) 0 0 (fun q => E.1 < q) := by
  refine met_G0 RX3 (by decide +kernel) rfl (Nat.le_of_ble_eq_true rfl) ?_
  intro p e s m args below meth c C hr hlk
  rw [fX3_fail] at h
  refine g_aload_n C (f := 0) dX3_fail_0 0 rfl ?_
  refine g_getf C (k := 6) (kd := 0) okX3 (by decide) kf_RX3_48 dX3_fail_1 (rg_ hC T0.1) T0.2.1 rfl ?_
  refine g_if_ne C 12 dX3_fail_4 rfl (fun c1 => ?_) (fun c1 => ?_)
  · replace h := if_f h c1
    cases h
    exact g_vret C dX3_fail_12 hr hlk
  · replace h := if_t h c1
    refine g_aload_n C (f := 0) dX3_fail_7 0 rfl ?_
    refine g_iload_n C (f := 1) dX3_fail_8 1 rfl ?_
    obtain ⟨v2, ev2, h⟩ := lt_e h
    refine g_putf C (k := 6) (kd := 0) okX3 (by decide) kf_RX3_48 dX3_fail_9 (rg_ hC T0.1) T0.2.1 rfl rfl nvI (Or.inl rfl) v2 ev2 ?_
    cases h
    exact g_vret C dX3_fail_12 hr hlk
theorem dX9_sortAt_0 : decode cX9_sortAt 0 = .ok (.iload_n 1, 1) := by decide +kernel
theorem dX9_sortAt_1 : decode cX9_sortAt 1 = .ok (.ifCond .lt 20, 3) := by decide +kernel
theorem dX9_sortAt_4 : decode cX9_sortAt 4 = .ok (.iload_n 1, 1) := by decide +kernel
theorem dX9_sortAt_5 : decode cX9_sortAt 5 = .ok (.aload_n 0, 1) := by decide +kernel
theorem dX9_sortAt_6 : decode cX9_sortAt 6 = .ok (.getfield 43, 3) := by decide +kernel
theorem dX9_sortAt_9 : decode cX9_sortAt 9 = .ok (.if_icmp .ge 12, 3) := by decide +kernel
theorem dX9_sortAt_12 : decode cX9_sortAt 12 = .ok (.aload_n 0, 1) := by decide +kernel
theorem dX9_sortAt_13 : decode cX9_sortAt 13 = .ok (.getfield 15, 3) := by decide +kernel
theorem dX9_sortAt_16 : decode cX9_sortAt 16 = .ok (.iload_n 1, 1) := by decide +kernel
theorem dX9_sortAt_17 : decode cX9_sortAt 17 = .ok (.iaload, 1) := by decide +kernel
theorem dX9_sortAt_18 : decode cX9_sortAt 18 = .ok (.goto 5, 3) := by decide +kernel
theorem dX9_sortAt_21 : decode cX9_sortAt 21 = .ok (.bipush 19, 2) := by decide +kernel
theorem dX9_sortAt_23 : decode cX9_sortAt 23 = .ok (.ireturn, 1) := by decide +kernel
def fX9_sortAt (x0 x1 : Int) (v : V_) : Option (Int × V_) :=
  if x1 < 0 then (
    some (19, v))
  else (
    if (v x0 4) ≤ x1 then (
      some (19, v))
    else (
      ck_ (0 ≤ x1 ∧ x1 < 402) (
      some (v (x0 + 2) x1, v))))
theorem cX9_sortAt_ok (l : Launch) {E : En_} {sz : Int} (hC : Cl_ E.2.2.2.2.2 sz) {x0 x1 : Int} {v : V_} {out : Int × V_} (T0 : (E.2.2.2.2.2 x0 ∧ ty_ x0 = 9 ∧ ln_ x0 = 0)) (h : fX9_sortAt x0 x1 v = some out) : Met l yX9_sortAt [.code yX9_sortAt cX9_sortAt 2 (some FieldType.int)] (rm_ 0 0) (Pc_ E sz v [(2, x0), (0, x1)]) (Qc_ E sz 0 out.1 out.2) 0 0 (fun q => E.1 < q) := by
  refine met_G0 RX9 (by decide +kernel) rfl (Nat.le_of_ble_eq_true rfl) ?_
  intro p e s m args below meth c C hr hlk
  rw [fX9_sortAt] at h
  refine g_iload_n C (f := 1) dX9_sortAt_0 1 rfl ?_
  refine g_if_lt C 21 dX9_sortAt_1 rfl (fun c1 => ?_) (fun c1 => ?_)
  · replace h := if_t h c1
    refine g_bipush C (n := 19) dX9_sortAt_21 (by decide) ?_
    cases h
    exact g_iret C dX9_sortAt_23 hr hlk
  · replace h := if_f h c1
    refine g_iload_n C (f := 1) dX9_sortAt_4 1 rfl ?_
    refine g_aload_n C (f := 0) dX9_sortAt_5 0 rfl ?_
    refine g_getf C (k := 4) (kd := 0) okX9 (by decide) kf_RX9_43 dX9_sortAt_6 (rg_ hC T0.1) T0.2.1 rfl ?_
    refine g_icmp_ge C 21 dX9_sortAt_9 rfl (fun c2 => ?_) (fun c2 => ?_)
    · replace h := if_t h c2
      refine g_bipush C (n := 19) dX9_sortAt_21 (by decide) ?_
      cases h
      exact g_iret C dX9_sortAt_23 hr hlk
    · replace h := if_f h c2
      refine g_aload_n C (f := 0) dX9_sortAt_12 0 rfl ?_
      have F3 := fX9_1 hC T0.1 T0.2.1
      refine g_getR C (k := 1) (o := 2) okX9 (by decide) kf_RX9_15 dX9_sortAt_13 hC T0.1 T0.2.1 rfl rfl ?_
      refine g_iload_n C (f := 1) dX9_sortAt_16 1 rfl ?_
      obtain ⟨c4, h⟩ := ck_e h
      refine g_iald C 402 dX9_sortAt_17 (rg_ hC F3.1) F3.2.1 F3.2.2 c4 ?_
      refine g_goto C 23 dX9_sortAt_18 rfl ?_
      cases h
      exact g_iret C dX9_sortAt_23 hr hlk
theorem dX3_sees_0 : decode cX3_sees 0 = .ok (.aload_n 0, 1) := by decide +kernel
theorem dX3_sees_1 : decode cX3_sees 1 = .ok (.getfield 12, 3) := by decide +kernel
theorem dX3_sees_4 : decode cX3_sees 4 = .ok (.aload_n 0, 1) := by decide +kernel
theorem dX3_sees_5 : decode cX3_sees 5 = .ok (.getfield 44, 3) := by decide +kernel
theorem dX3_sees_8 : decode cX3_sees 8 = .ok (.invokevirtual 88, 3) := by decide +kernel
theorem dX3_sees_11 : decode cX3_sees 11 = .ok (.iload_n 1, 1) := by decide +kernel
theorem dX3_sees_12 : decode cX3_sees 12 = .ok (.if_icmp .ne 7, 3) := by decide +kernel
theorem dX3_sees_15 : decode cX3_sees 15 = .ok (.iconst 1, 1) := by decide +kernel
theorem dX3_sees_16 : decode cX3_sees 16 = .ok (.goto 4, 3) := by decide +kernel
theorem dX3_sees_19 : decode cX3_sees 19 = .ok (.iconst 0, 1) := by decide +kernel
theorem dX3_sees_20 : decode cX3_sees 20 = .ok (.ireturn, 1) := by decide +kernel
def fX3_sees (x0 x1 : Int) (v : V_) : Option (Int × V_) :=
  bd_ (fX9_sortAt (x0 + 1) (v x0 5) v) fun q2 =>
  if q2.1 = x1 then (
    some (1, q2.2))
  else (
    some (0, q2.2))
theorem cX3_sees_ok (l : Launch) {E : En_} {sz : Int} (hC : Cl_ E.2.2.2.2.2 sz) (hG : Pg_ E.2.2.2.2.2) {x0 x1 : Int} {v : V_} {out : Int × V_} (T0 : (E.2.2.2.2.2 x0 ∧ ty_ x0 = 3 ∧ ln_ x0 = 0)) (h : fX3_sees x0 x1 v = some out) : Met l yX3_sees [.code yX3_sees cX3_sees 2 (some FieldType.boolean)] (rm_ 1 21) (Pc_ E sz v [(2, x0), (0, x1)]) (Qc_ E sz 0 out.1 out.2) 0 0 (fun q => E.1 < q) := by
  refine met_G0 RX3 (by decide +kernel) rfl (Nat.le_of_ble_eq_true rfl) ?_
  intro p e s m args below meth c C hr hlk
  rw [fX3_sees] at h
  refine g_aload_n C (f := 0) dX3_sees_0 0 rfl ?_
  have F1 := fX3_0 hC T0.1 T0.2.1
  refine g_getR C (k := 0) (o := 1) okX3 (by decide) kf_RX3_12 dX3_sees_1 hC T0.1 T0.2.1 rfl rfl ?_
  refine g_aload_n C (f := 0) dX3_sees_4 0 rfl ?_
  refine g_getf C (k := 5) (kd := 0) okX3 (by decide) kf_RX3_44 dX3_sees_5 (rg_ hC T0.1) T0.2.1 rfl ?_
  obtain ⟨q2, eq2, h⟩ := bd_e h
  refine g_cV C [(0, v x0 5)] (cX9_sortAt_ok l hC F1 eq2) okX9 F1.2.1 (rg_ hC F1.1) km_RX3_88 cv_X9_sortAt rfl (by decide) rfl rfl (Nat.le_of_ble_eq_true rfl) dX3_sees_8 ?_
  refine g_iload_n C (f := 1) dX3_sees_11 1 rfl ?_
  refine g_icmp_ne C 19 dX3_sees_12 rfl (fun c3 => ?_) (fun c3 => ?_)
  · replace h := if_f h c3
    refine g_iconst C (n := 0) dX3_sees_19 (by decide) ?_
    cases h
    exact g_zret C dX3_sees_20 hr hlk (Or.inl rfl)
  · replace h := if_t h c3
    refine g_iconst C (n := 1) dX3_sees_15 (by decide) ?_
    refine g_goto C 20 dX3_sees_16 rfl ?_
    cases h
    exact g_zret C dX3_sees_20 hr hlk (Or.inr rfl)
theorem dX3_take_0 : decode cX3_take 0 = .ok (.aload_n 0, 1) := by decide +kernel
theorem dX3_take_1 : decode cX3_take 1 = .ok (.getfield 44, 3) := by decide +kernel
theorem dX3_take_4 : decode cX3_take 4 = .ok (.sipush 400, 3) := by decide +kernel
theorem dX3_take_7 : decode cX3_take 7 = .ok (.if_icmp .lt 11, 3) := by decide +kernel
theorem dX3_take_10 : decode cX3_take 10 = .ok (.aload_n 0, 1) := by decide +kernel
theorem dX3_take_11 : decode cX3_take 11 = .ok (.iconst 2, 1) := by decide +kernel
theorem dX3_take_12 : decode cX3_take 12 = .ok (.invokevirtual 71, 3) := by decide +kernel
theorem dX3_take_15 : decode cX3_take 15 = .ok (.goto 20, 3) := by decide +kernel
theorem dX3_take_18 : decode cX3_take 18 = .ok (.aload_n 0, 1) := by decide +kernel
theorem dX3_take_19 : decode cX3_take 19 = .ok (.getfield 48, 3) := by decide +kernel
theorem dX3_take_22 : decode cX3_take 22 = .ok (.ifCond .ne 13, 3) := by decide +kernel
theorem dX3_take_25 : decode cX3_take 25 = .ok (.aload_n 0, 1) := by decide +kernel
theorem dX3_take_26 : decode cX3_take 26 = .ok (.dup, 1) := by decide +kernel
theorem dX3_take_27 : decode cX3_take 27 = .ok (.getfield 44, 3) := by decide +kernel
theorem dX3_take_30 : decode cX3_take 30 = .ok (.iconst 1, 1) := by decide +kernel
theorem dX3_take_31 : decode cX3_take 31 = .ok (.iadd, 1) := by decide +kernel
theorem dX3_take_32 : decode cX3_take 32 = .ok (.putfield 44, 3) := by decide +kernel
theorem dX3_take_35 : decode cX3_take 35 = .ok (.return_, 1) := by decide +kernel
def fX3_take (x0 : Int) (v : V_) : Option (Int × V_) :=
  if (v x0 5) < 400 then (
    if (v x0 6) = 0 then (
      lt_ (up_ v x0 5 (wr_ ((v x0 5) + 1))) fun v3 =>
      some (0, v3))
    else (
      some (0, v)))
  else (
    bd_ (fX3_fail x0 2 v) fun q4 =>
    some (0, q4.2))
theorem cX3_take_ok (l : Launch) {E : En_} {sz : Int} (hC : Cl_ E.2.2.2.2.2 sz) (hG : Pg_ E.2.2.2.2.2) {x0 : Int} {v : V_} {out : Int × V_} (T0 : (E.2.2.2.2.2 x0 ∧ ty_ x0 = 3 ∧ ln_ x0 = 0)) (h : fX3_take x0 v = some out) : Met l yX3_take [.code yX3_take cX3_take 1 (none : Option FieldType)] (rm_ 1 21) (Pc_ E sz v [(2, x0)]) (Qc_ E sz 9 out.1 out.2) 0 0 (fun q => E.1 < q) := by
  refine met_G0 RX3 (by decide +kernel) rfl (Nat.le_of_ble_eq_true rfl) ?_
  intro p e s m args below meth c C hr hlk
  rw [fX3_take] at h
  refine g_aload_n C (f := 0) dX3_take_0 0 rfl ?_
  refine g_getf C (k := 5) (kd := 0) okX3 (by decide) kf_RX3_44 dX3_take_1 (rg_ hC T0.1) T0.2.1 rfl ?_
  refine g_sipush C (n := 400) dX3_take_4 (by decide) ?_
  refine g_icmp_lt C 18 dX3_take_7 rfl (fun c1 => ?_) (fun c1 => ?_)
  · replace h := if_t h c1
    refine g_aload_n C (f := 0) dX3_take_18 0 rfl ?_
    refine g_getf C (k := 6) (kd := 0) okX3 (by decide) kf_RX3_48 dX3_take_19 (rg_ hC T0.1) T0.2.1 rfl ?_
    refine g_if_ne C 35 dX3_take_22 rfl (fun c2 => ?_) (fun c2 => ?_)
    · replace h := if_f h c2
      cases h
      exact g_vret C dX3_take_35 hr hlk
    · replace h := if_t h c2
      refine g_aload_n C (f := 0) dX3_take_25 0 rfl ?_
      refine g_dup C (Nat.ne_of_beq_eq_false rfl) dX3_take_26 ?_
      refine g_getf C (k := 5) (kd := 0) okX3 (by decide) kf_RX3_44 dX3_take_27 (rg_ hC T0.1) T0.2.1 rfl ?_
      refine g_iconst C (n := 1) dX3_take_30 (by decide) ?_
      refine g_iadd C dX3_take_31 ?_
      obtain ⟨v3, ev3, h⟩ := lt_e h
      refine g_putf C (k := 5) (kd := 0) okX3 (by decide) kf_RX3_44 dX3_take_32 (rg_ hC T0.1) T0.2.1 rfl rfl nvI (Or.inl rfl) v3 ev3 ?_
      cases h
      exact g_vret C dX3_take_35 hr hlk
  · replace h := if_f h c1
    refine g_aload_n C (f := 0) dX3_take_10 0 rfl ?_
    refine g_iconst C (n := 2) dX3_take_11 (by decide) ?_
    obtain ⟨q4, eq4, h⟩ := bd_e h
    refine g_cV C [(0, 2)] (cX3_fail_ok l hC hG T0 eq4) okX3 T0.2.1 (rg_ hC T0.1) km_RX3_71 cv_X3_fail rfl (by decide) rfl rfl (Nat.le_of_ble_eq_true rfl) dX3_take_12 ?_
    refine g_goto C 35 dX3_take_15 rfl ?_
    cases h
    exact g_vret C dX3_take_35 hr hlk
theorem dX3_expect_0 : decode cX3_expect 0 = .ok (.aload_n 0, 1) := by decide +kernel
theorem dX3_expect_1 : decode cX3_expect 1 = .ok (.iload_n 1, 1) := by decide +kernel
theorem dX3_expect_2 : decode cX3_expect 2 = .ok (.invokevirtual 61, 3) := by decide +kernel
theorem dX3_expect_5 : decode cX3_expect 5 = .ok (.ifCond .eq 10, 3) := by decide +kernel
theorem dX3_expect_8 : decode cX3_expect 8 = .ok (.aload_n 0, 1) := by decide +kernel
theorem dX3_expect_9 : decode cX3_expect 9 = .ok (.invokevirtual 85, 3) := by decide +kernel
theorem dX3_expect_12 : decode cX3_expect 12 = .ok (.goto 8, 3) := by decide +kernel
theorem dX3_expect_15 : decode cX3_expect 15 = .ok (.aload_n 0, 1) := by decide +kernel
theorem dX3_expect_16 : decode cX3_expect 16 = .ok (.iconst 1, 1) := by decide +kernel
theorem dX3_expect_17 : decode cX3_expect 17 = .ok (.invokevirtual 71, 3) := by decide +kernel
theorem dX3_expect_20 : decode cX3_expect 20 = .ok (.return_, 1) := by decide +kernel
def fX3_expect (x0 x1 : Int) (v : V_) : Option (Int × V_) :=
  bd_ (fX3_sees x0 x1 v) fun q1 =>
  if q1.1 = 0 then (
    bd_ (fX3_fail x0 1 q1.2) fun q3 =>
    some (0, q3.2))
  else (
    bd_ (fX3_take x0 q1.2) fun q4 =>
    some (0, q4.2))
theorem cX3_expect_ok (l : Launch) {E : En_} {sz : Int} (hC : Cl_ E.2.2.2.2.2 sz) (hG : Pg_ E.2.2.2.2.2) {x0 x1 : Int} {v : V_} {out : Int × V_} (T0 : (E.2.2.2.2.2 x0 ∧ ty_ x0 = 3 ∧ ln_ x0 = 0)) (h : fX3_expect x0 x1 v = some out) : Met l yX3_expect [.code yX3_expect cX3_expect 2 (none : Option FieldType)] (rm_ 2 42) (Pc_ E sz v [(2, x0), (0, x1)]) (Qc_ E sz 9 out.1 out.2) 0 0 (fun q => E.1 < q) := by
  refine met_G0 RX3 (by decide +kernel) rfl (Nat.le_of_ble_eq_true rfl) ?_
  intro p e s m args below meth c C hr hlk
  rw [fX3_expect] at h
  refine g_aload_n C (f := 0) dX3_expect_0 0 rfl ?_
  refine g_iload_n C (f := 1) dX3_expect_1 1 rfl ?_
  obtain ⟨q1, eq1, h⟩ := bd_e h
  refine g_cV C [(0, x1)] (cX3_sees_ok l hC hG T0 eq1) okX3 T0.2.1 (rg_ hC T0.1) km_RX3_61 cv_X3_sees rfl (by decide) rfl rfl (Nat.le_of_ble_eq_true rfl) dX3_expect_2 ?_
  refine g_if_eq C 15 dX3_expect_5 rfl (fun c2 => ?_) (fun c2 => ?_)
  · replace h := if_t h c2
    refine g_aload_n C (f := 0) dX3_expect_15 0 rfl ?_
    refine g_iconst C (n := 1) dX3_expect_16 (by decide) ?_
    obtain ⟨q3, eq3, h⟩ := bd_e h
    refine g_cV C [(0, 1)] (cX3_fail_ok l hC hG T0 eq3) okX3 T0.2.1 (rg_ hC T0.1) km_RX3_71 cv_X3_fail rfl (by decide) rfl rfl (Nat.le_of_ble_eq_true rfl) dX3_expect_17 ?_
    cases h
    exact g_vret C dX3_expect_20 hr hlk
  · replace h := if_f h c2
    refine g_aload_n C (f := 0) dX3_expect_8 0 rfl ?_
    obtain ⟨q4, eq4, h⟩ := bd_e h
    refine g_cV C [] (cX3_take_ok l hC hG T0 eq4) okX3 T0.2.1 (rg_ hC T0.1) km_RX3_85 cv_X3_take rfl (by decide) rfl rfl (Nat.le_of_ble_eq_true rfl) dX3_expect_9 ?_
    refine g_goto C 20 dX3_expect_12 rfl ?_
    cases h
    exact g_vret C dX3_expect_20 hr hlk
theorem dX3_failLater_0 : decode cX3_failLater 0 = .ok (.aload_n 0, 1) := by decide +kernel
theorem dX3_failLater_1 : decode cX3_failLater 1 = .ok (.getfield 51, 3) := by decide +kernel
theorem dX3_failLater_4 : decode cX3_failLater 4 = .ok (.ifCond .eq 11, 3) := by decide +kernel
theorem dX3_failLater_7 : decode cX3_failLater 7 = .ok (.iload_n 2, 1) := by decide +kernel
theorem dX3_failLater_8 : decode cX3_failLater 8 = .ok (.aload_n 0, 1) := by decide +kernel
theorem dX3_failLater_9 : decode cX3_failLater 9 = .ok (.getfield 54, 3) := by decide +kernel
theorem dX3_failLater_12 : decode cX3_failLater 12 = .ok (.if_icmp .ge 13, 3) := by decide +kernel
theorem dX3_failLater_15 : decode cX3_failLater 15 = .ok (.aload_n 0, 1) := by decide +kernel
theorem dX3_failLater_16 : decode cX3_failLater 16 = .ok (.iload_n 1, 1) := by decide +kernel
theorem dX3_failLater_17 : decode cX3_failLater 17 = .ok (.putfield 51, 3) := by decide +kernel
theorem dX3_failLater_20 : decode cX3_failLater 20 = .ok (.aload_n 0, 1) := by decide +kernel
theorem dX3_failLater_21 : decode cX3_failLater 21 = .ok (.iload_n 2, 1) := by decide +kernel
theorem dX3_failLater_22 : decode cX3_failLater 22 = .ok (.putfield 54, 3) := by decide +kernel
theorem dX3_failLater_25 : decode cX3_failLater 25 = .ok (.return_, 1) := by decide +kernel
def fX3_failLater_15 (x0 x1 x2 : Int) (v : V_) : Option (Int × V_) :=
  lt_ (up_ v x0 8 x1) fun v2 =>
  lt_ (up_ v2 x0 9 x2) fun v3 =>
  some (0, v3)
def fX3_failLater (x0 x1 x2 : Int) (v : V_) : Option (Int × V_) :=
  if (v x0 8) = 0 then (
    fX3_failLater_15 x0 x1 x2 v)
  else (
    if (v x0 9) ≤ x2 then (
      some (0, v))
    else (
      fX3_failLater_15 x0 x1 x2 v))
section
variable {E : En_} {p : Program} {l : Launch} {e : Env} {s : State} {m : MethodId} {args : Array Value} {below : List Frame} {meth : Method} {c : Code} {sz : Int}
theorem tX3_failLater_15 (C : MC_ E p s m c cX3_failLater 3 RX3) (hr : meth.sig.returnType = (none : Option FieldType)) (hlk : meth.locks = false) (hC : Cl_ E.2.2.2.2.2 sz) (hG : Pg_ E.2.2.2.2.2) {out : Int × V_} (x0 x1 x2 : Int) (v : V_) (T0 : (E.2.2.2.2.2 x0 ∧ ty_ x0 = 3 ∧ ln_ x0 = 0)) (h : fX3_failLater_15 x0 x1 x2 v = some out) : G_ E p l e (rm_ 0 0) s m args below meth c 3 sz (Q_ E below args s sz sz 9 out.1 out.2) 15 [(0, (2, x0)), (1, (0, x1)), (2, (0, x2))] [] v sz := by
  rw [fX3_failLater_15] at h
  refine g_aload_n C (f := 0) dX3_failLater_15 0 rfl ?_
  refine g_iload_n C (f := 1) dX3_failLater_16 1 rfl ?_
  obtain ⟨v2, ev2, h⟩ := lt_e h
  refine g_putf C (k := 8) (kd := 0) okX3 (by decide) kf_RX3_51 dX3_failLater_17 (rg_ hC T0.1) T0.2.1 rfl rfl nvI (Or.inl rfl) v2 ev2 ?_
  refine g_aload_n C (f := 0) dX3_failLater_20 0 rfl ?_
  refine g_iload_n C (f := 2) dX3_failLater_21 2 rfl ?_
  obtain ⟨v3, ev3, h⟩ := lt_e h
  refine g_putf C (k := 9) (kd := 0) okX3 (by decide) kf_RX3_54 dX3_failLater_22 (rg_ hC T0.1) T0.2.1 rfl rfl nvI (Or.inl rfl) v3 ev3 ?_
  cases h
  exact g_vret C dX3_failLater_25 hr hlk
end
theorem cX3_failLater_ok (l : Launch) {E : En_} {sz : Int} (hC : Cl_ E.2.2.2.2.2 sz) (hG : Pg_ E.2.2.2.2.2) {x0 x1 x2 : Int} {v : V_} {out : Int × V_} (T0 : (E.2.2.2.2.2 x0 ∧ ty_ x0 = 3 ∧ ln_ x0 = 0)) (h : fX3_failLater x0 x1 x2 v = some out) : Met l yX3_failLater [.code yX3_failLater cX3_failLater 3 (none : Option FieldType)] (rm_ 0 0) (Pc_ E sz v [(2, x0), (0, x1), (0, x2)]) (Qc_ E sz 9 out.1 out.2) 0 0 (fun q => E.1 < q) := by
  refine met_G0 RX3 (by decide +kernel) rfl (Nat.le_of_ble_eq_true rfl) ?_
  intro p e s m args below meth c C hr hlk
  rw [fX3_failLater] at h
  refine g_aload_n C (f := 0) dX3_failLater_0 0 rfl ?_
  refine g_getf C (k := 8) (kd := 0) okX3 (by decide) kf_RX3_51 dX3_failLater_1 (rg_ hC T0.1) T0.2.1 rfl ?_
  refine g_if_eq C 15 dX3_failLater_4 rfl (fun c1 => ?_) (fun c1 => ?_)
  · replace h := if_t h c1
    refine g_sub [0, 1, 2] rfl rfl ?_
    exact tX3_failLater_15 C hr hlk hC hG _ _ _ _ T0 h
  · replace h := if_f h c1
    refine g_iload_n C (f := 2) dX3_failLater_7 2 rfl ?_
    refine g_aload_n C (f := 0) dX3_failLater_8 0 rfl ?_
    refine g_getf C (k := 9) (kd := 0) okX3 (by decide) kf_RX3_54 dX3_failLater_9 (rg_ hC T0.1) T0.2.1 rfl ?_
    refine g_icmp_ge C 25 dX3_failLater_12 rfl (fun c4 => ?_) (fun c4 => ?_)
    · replace h := if_t h c4
      cases h
      exact g_vret C dX3_failLater_25 hr hlk
    · replace h := if_f h c4
      refine g_sub [0, 1, 2] rfl rfl ?_
      exact tX3_failLater_15 C hr hlk hC hG _ _ _ _ T0 h
theorem dX11_isRegister_0 : decode cX11_isRegister 0 = .ok (.iload_n 0, 1) := by decide +kernel
theorem dX11_isRegister_1 : decode cX11_isRegister 1 = .ok (.ifCond .lt 13, 3) := by decide +kernel
theorem dX11_isRegister_4 : decode cX11_isRegister 4 = .ok (.iload_n 0, 1) := by decide +kernel
theorem dX11_isRegister_5 : decode cX11_isRegister 5 = .ok (.bipush 6, 2) := by decide +kernel
theorem dX11_isRegister_7 : decode cX11_isRegister 7 = .ok (.if_icmp .ge 7, 3) := by decide +kernel
theorem dX11_isRegister_10 : decode cX11_isRegister 10 = .ok (.iconst 1, 1) := by decide +kernel
theorem dX11_isRegister_11 : decode cX11_isRegister 11 = .ok (.goto 4, 3) := by decide +kernel
theorem dX11_isRegister_14 : decode cX11_isRegister 14 = .ok (.iconst 0, 1) := by decide +kernel
theorem dX11_isRegister_15 : decode cX11_isRegister 15 = .ok (.ireturn, 1) := by decide +kernel
def fX11_isRegister (x0 : Int) (v : V_) : Option (Int × V_) :=
  if x0 < 0 then (
    some (0, v))
  else (
    if 6 ≤ x0 then (
      some (0, v))
    else (
      some (1, v)))
theorem cX11_isRegister_ok (l : Launch) {E : En_} {sz : Int} (hC : Cl_ E.2.2.2.2.2 sz) {x0 : Int} {v : V_} {out : Int × V_} (h : fX11_isRegister x0 v = some out) : Met l yX11_isRegister [.code yX11_isRegister cX11_isRegister 1 (some FieldType.boolean)] (rm_ 0 0) (Pc_ E sz v [(0, x0)]) (Qc_ E sz 0 out.1 out.2) 0 0 (fun q => E.1 < q) := by
  refine met_G0 RX11 (by decide +kernel) rfl (Nat.le_of_ble_eq_true rfl) ?_
  intro p e s m args below meth c C hr hlk
  rw [fX11_isRegister] at h
  refine g_iload_n C (f := 0) dX11_isRegister_0 0 rfl ?_
  refine g_if_lt C 14 dX11_isRegister_1 rfl (fun c1 => ?_) (fun c1 => ?_)
  · replace h := if_t h c1
    refine g_iconst C (n := 0) dX11_isRegister_14 (by decide) ?_
    cases h
    exact g_zret C dX11_isRegister_15 hr hlk (Or.inl rfl)
  · replace h := if_f h c1
    refine g_iload_n C (f := 0) dX11_isRegister_4 0 rfl ?_
    refine g_bipush C (n := 6) dX11_isRegister_5 (by decide) ?_
    refine g_icmp_ge C 14 dX11_isRegister_7 rfl (fun c2 => ?_) (fun c2 => ?_)
    · replace h := if_t h c2
      refine g_iconst C (n := 0) dX11_isRegister_14 (by decide) ?_
      cases h
      exact g_zret C dX11_isRegister_15 hr hlk (Or.inl rfl)
    · replace h := if_f h c2
      refine g_iconst C (n := 1) dX11_isRegister_10 (by decide) ?_
      refine g_goto C 15 dX11_isRegister_11 rfl ?_
      cases h
      exact g_zret C dX11_isRegister_15 hr hlk (Or.inr rfl)
theorem dX3_takeRegister_0 : decode cX3_takeRegister 0 = .ok (.aload_n 0, 1) := by decide +kernel
theorem dX3_takeRegister_1 : decode cX3_takeRegister 1 = .ok (.getfield 12, 3) := by decide +kernel
theorem dX3_takeRegister_4 : decode cX3_takeRegister 4 = .ok (.aload_n 0, 1) := by decide +kernel
theorem dX3_takeRegister_5 : decode cX3_takeRegister 5 = .ok (.getfield 44, 3) := by decide +kernel
theorem dX3_takeRegister_8 : decode cX3_takeRegister 8 = .ok (.invokevirtual 88, 3) := by decide +kernel
theorem dX3_takeRegister_11 : decode cX3_takeRegister 11 = .ok (.bipush 11, 2) := by decide +kernel
theorem dX3_takeRegister_13 : decode cX3_takeRegister 13 = .ok (.isub, 1) := by decide +kernel
theorem dX3_takeRegister_14 : decode cX3_takeRegister 14 = .ok (.istore_n 1, 1) := by decide +kernel
theorem dX3_takeRegister_15 : decode cX3_takeRegister 15 = .ok (.iload_n 1, 1) := by decide +kernel
theorem dX3_takeRegister_16 : decode cX3_takeRegister 16 = .ok (.invokestatic 167, 3) := by decide +kernel
theorem dX3_takeRegister_19 : decode cX3_takeRegister 19 = .ok (.ifCond .ne 10, 3) := by decide +kernel
theorem dX3_takeRegister_22 : decode cX3_takeRegister 22 = .ok (.aload_n 0, 1) := by decide +kernel
theorem dX3_takeRegister_23 : decode cX3_takeRegister 23 = .ok (.iconst 1, 1) := by decide +kernel
theorem dX3_takeRegister_24 : decode cX3_takeRegister 24 = .ok (.invokevirtual 71, 3) := by decide +kernel
theorem dX3_takeRegister_27 : decode cX3_takeRegister 27 = .ok (.iconst 0, 1) := by decide +kernel
theorem dX3_takeRegister_28 : decode cX3_takeRegister 28 = .ok (.ireturn, 1) := by decide +kernel
theorem dX3_takeRegister_29 : decode cX3_takeRegister 29 = .ok (.aload_n 0, 1) := by decide +kernel
theorem dX3_takeRegister_30 : decode cX3_takeRegister 30 = .ok (.invokevirtual 85, 3) := by decide +kernel
theorem dX3_takeRegister_33 : decode cX3_takeRegister 33 = .ok (.iload_n 1, 1) := by decide +kernel
theorem dX3_takeRegister_34 : decode cX3_takeRegister 34 = .ok (.ireturn, 1) := by decide +kernel
def fX3_takeRegister (x0 : Int) (v : V_) : Option (Int × V_) :=
  bd_ (fX9_sortAt (x0 + 1) (v x0 5) v) fun q2 =>
  lt_ (wr_ (q2.1 - 11)) fun y3 =>
  bd_ (fX11_isRegister y3 q2.2) fun q4 =>
  if q4.1 = 0 then (
    bd_ (fX3_fail x0 1 q4.2) fun q7 =>
    some (0, q7.2))
  else (
    bd_ (fX3_take x0 q4.2) fun q6 =>
    some (y3, q6.2))
theorem cX3_takeRegister_ok (l : Launch) {E : En_} {sz : Int} (hC : Cl_ E.2.2.2.2.2 sz) (hG : Pg_ E.2.2.2.2.2) {x0 : Int} {v : V_} {out : Int × V_} (T0 : (E.2.2.2.2.2 x0 ∧ ty_ x0 = 3 ∧ ln_ x0 = 0)) (h : fX3_takeRegister x0 v = some out) : Met l yX3_takeRegister [.code yX3_takeRegister cX3_takeRegister 2 (some FieldType.int)] (rm_ 2 41) (Pc_ E sz v [(2, x0)]) (Qc_ E sz 0 out.1 out.2) 0 0 (fun q => E.1 < q) := by
  refine met_G0 RX3 (by decide +kernel) rfl (Nat.le_of_ble_eq_true rfl) ?_
  intro p e s m args below meth c C hr hlk
  rw [fX3_takeRegister] at h
  refine g_aload_n C (f := 0) dX3_takeRegister_0 0 rfl ?_
  have F1 := fX3_0 hC T0.1 T0.2.1
  refine g_getR C (k := 0) (o := 1) okX3 (by decide) kf_RX3_12 dX3_takeRegister_1 hC T0.1 T0.2.1 rfl rfl ?_
  refine g_aload_n C (f := 0) dX3_takeRegister_4 0 rfl ?_
  refine g_getf C (k := 5) (kd := 0) okX3 (by decide) kf_RX3_44 dX3_takeRegister_5 (rg_ hC T0.1) T0.2.1 rfl ?_
  obtain ⟨q2, eq2, h⟩ := bd_e h
  refine g_cV C [(0, v x0 5)] (cX9_sortAt_ok l hC F1 eq2) okX9 F1.2.1 (rg_ hC F1.1) km_RX3_88 cv_X9_sortAt rfl (by decide) rfl rfl (Nat.le_of_ble_eq_true rfl) dX3_takeRegister_8 ?_
  refine g_bipush C (n := 11) dX3_takeRegister_11 (by decide) ?_
  refine g_isub C dX3_takeRegister_13 ?_
  obtain ⟨y3, ey3, h⟩ := lt_e h
  refine g_set C ey3 ?_
  refine g_istore_n C (f := 1) (ls' := [(1, (0, y3)), (0, (2, x0))]) dX3_takeRegister_14 (by decide) rfl ?_
  refine g_iload_n C (f := 1) dX3_takeRegister_15 0 rfl ?_
  obtain ⟨q4, eq4, h⟩ := bd_e h
  refine g_cSN C [(0, y3)] (cX11_isRegister_ok l hC eq4) km_RX3_167 cs_X11_isRegister rfl (by decide) rfl rfl (Nat.le_of_ble_eq_true rfl) dX3_takeRegister_16 ?_
  refine g_if_ne C 29 dX3_takeRegister_19 rfl (fun c5 => ?_) (fun c5 => ?_)
  · replace h := if_f h c5
    refine g_aload_n C (f := 0) dX3_takeRegister_29 1 rfl ?_
    obtain ⟨q6, eq6, h⟩ := bd_e h
    refine g_cV C [] (cX3_take_ok l hC hG T0 eq6) okX3 T0.2.1 (rg_ hC T0.1) km_RX3_85 cv_X3_take rfl (by decide) rfl rfl (Nat.le_of_ble_eq_true rfl) dX3_takeRegister_30 ?_
    refine g_iload_n C (f := 1) dX3_takeRegister_33 0 rfl ?_
    cases h
    exact g_iret C dX3_takeRegister_34 hr hlk
  · replace h := if_t h c5
    refine g_aload_n C (f := 0) dX3_takeRegister_22 1 rfl ?_
    refine g_iconst C (n := 1) dX3_takeRegister_23 (by decide) ?_
    obtain ⟨q7, eq7, h⟩ := bd_e h
    refine g_cV C [(0, 1)] (cX3_fail_ok l hC hG T0 eq7) okX3 T0.2.1 (rg_ hC T0.1) km_RX3_71 cv_X3_fail rfl (by decide) rfl rfl (Nat.le_of_ble_eq_true rfl) dX3_takeRegister_24 ?_
    refine g_iconst C (n := 0) dX3_takeRegister_27 (by decide) ?_
    cases h
    exact g_iret C dX3_takeRegister_28 hr hlk
theorem dX3_seesRegister_0 : decode cX3_seesRegister 0 = .ok (.aload_n 0, 1) := by decide +kernel
theorem dX3_seesRegister_1 : decode cX3_seesRegister 1 = .ok (.getfield 12, 3) := by decide +kernel
theorem dX3_seesRegister_4 : decode cX3_seesRegister 4 = .ok (.aload_n 0, 1) := by decide +kernel
theorem dX3_seesRegister_5 : decode cX3_seesRegister 5 = .ok (.getfield 44, 3) := by decide +kernel
theorem dX3_seesRegister_8 : decode cX3_seesRegister 8 = .ok (.invokevirtual 88, 3) := by decide +kernel
theorem dX3_seesRegister_11 : decode cX3_seesRegister 11 = .ok (.bipush 11, 2) := by decide +kernel
theorem dX3_seesRegister_13 : decode cX3_seesRegister 13 = .ok (.isub, 1) := by decide +kernel
theorem dX3_seesRegister_14 : decode cX3_seesRegister 14 = .ok (.istore_n 1, 1) := by decide +kernel
theorem dX3_seesRegister_15 : decode cX3_seesRegister 15 = .ok (.iload_n 1, 1) := by decide +kernel
theorem dX3_seesRegister_16 : decode cX3_seesRegister 16 = .ok (.invokestatic 167, 3) := by decide +kernel
theorem dX3_seesRegister_19 : decode cX3_seesRegister 19 = .ok (.ireturn, 1) := by decide +kernel
def fX3_seesRegister (x0 : Int) (v : V_) : Option (Int × V_) :=
  bd_ (fX9_sortAt (x0 + 1) (v x0 5) v) fun q2 =>
  lt_ (wr_ (q2.1 - 11)) fun y3 =>
  bd_ (fX11_isRegister y3 q2.2) fun q4 =>
  ck_ (q4.1 = 0 ∨ q4.1 = 1) (
  some (q4.1, q4.2))
theorem cX3_seesRegister_ok (l : Launch) {E : En_} {sz : Int} (hC : Cl_ E.2.2.2.2.2 sz) (hG : Pg_ E.2.2.2.2.2) {x0 : Int} {v : V_} {out : Int × V_} (T0 : (E.2.2.2.2.2 x0 ∧ ty_ x0 = 3 ∧ ln_ x0 = 0)) (h : fX3_seesRegister x0 v = some out) : Met l yX3_seesRegister [.code yX3_seesRegister cX3_seesRegister 2 (some FieldType.boolean)] (rm_ 1 21) (Pc_ E sz v [(2, x0)]) (Qc_ E sz 0 out.1 out.2) 0 0 (fun q => E.1 < q) := by
  refine met_G0 RX3 (by decide +kernel) rfl (Nat.le_of_ble_eq_true rfl) ?_
  intro p e s m args below meth c C hr hlk
  rw [fX3_seesRegister] at h
  refine g_aload_n C (f := 0) dX3_seesRegister_0 0 rfl ?_
  have F1 := fX3_0 hC T0.1 T0.2.1
  refine g_getR C (k := 0) (o := 1) okX3 (by decide) kf_RX3_12 dX3_seesRegister_1 hC T0.1 T0.2.1 rfl rfl ?_
  refine g_aload_n C (f := 0) dX3_seesRegister_4 0 rfl ?_
  refine g_getf C (k := 5) (kd := 0) okX3 (by decide) kf_RX3_44 dX3_seesRegister_5 (rg_ hC T0.1) T0.2.1 rfl ?_
  obtain ⟨q2, eq2, h⟩ := bd_e h
  refine g_cV C [(0, v x0 5)] (cX9_sortAt_ok l hC F1 eq2) okX9 F1.2.1 (rg_ hC F1.1) km_RX3_88 cv_X9_sortAt rfl (by decide) rfl rfl (Nat.le_of_ble_eq_true rfl) dX3_seesRegister_8 ?_
  refine g_bipush C (n := 11) dX3_seesRegister_11 (by decide) ?_
  refine g_isub C dX3_seesRegister_13 ?_
  obtain ⟨y3, ey3, h⟩ := lt_e h
  refine g_set C ey3 ?_
  refine g_istore_n C (f := 1) (ls' := [(1, (0, y3)), (0, (2, x0))]) dX3_seesRegister_14 (by decide) rfl ?_
  refine g_iload_n C (f := 1) dX3_seesRegister_15 0 rfl ?_
  obtain ⟨q4, eq4, h⟩ := bd_e h
  refine g_cSN C [(0, y3)] (cX11_isRegister_ok l hC eq4) km_RX3_167 cs_X11_isRegister rfl (by decide) rfl rfl (Nat.le_of_ble_eq_true rfl) dX3_seesRegister_16 ?_
  obtain ⟨c5, h⟩ := ck_e h
  cases h
  exact g_zret C dX3_seesRegister_19 hr hlk c5
theorem dX9_valueAt_0 : decode cX9_valueAt 0 = .ok (.iload_n 1, 1) := by decide +kernel
theorem dX9_valueAt_1 : decode cX9_valueAt 1 = .ok (.ifCond .lt 20, 3) := by decide +kernel
theorem dX9_valueAt_4 : decode cX9_valueAt 4 = .ok (.iload_n 1, 1) := by decide +kernel
theorem dX9_valueAt_5 : decode cX9_valueAt 5 = .ok (.aload_n 0, 1) := by decide +kernel
theorem dX9_valueAt_6 : decode cX9_valueAt 6 = .ok (.getfield 43, 3) := by decide +kernel
theorem dX9_valueAt_9 : decode cX9_valueAt 9 = .ok (.if_icmp .ge 12, 3) := by decide +kernel
theorem dX9_valueAt_12 : decode cX9_valueAt 12 = .ok (.aload_n 0, 1) := by decide +kernel
theorem dX9_valueAt_13 : decode cX9_valueAt 13 = .ok (.getfield 22, 3) := by decide +kernel
theorem dX9_valueAt_16 : decode cX9_valueAt 16 = .ok (.iload_n 1, 1) := by decide +kernel
theorem dX9_valueAt_17 : decode cX9_valueAt 17 = .ok (.laload, 1) := by decide +kernel
theorem dX9_valueAt_18 : decode cX9_valueAt 18 = .ok (.goto 4, 3) := by decide +kernel
theorem dX9_valueAt_21 : decode cX9_valueAt 21 = .ok (.lconst 0, 1) := by decide +kernel
theorem dX9_valueAt_22 : decode cX9_valueAt 22 = .ok (.lreturn, 1) := by decide +kernel
def fX9_valueAt (x0 x1 : Int) (v : V_) : Option (Int × V_) :=
  if x1 < 0 then (
    some (0, v))
  else (
    if (v x0 4) ≤ x1 then (
      some (0, v))
    else (
      ck_ (0 ≤ x1 ∧ x1 < 402) (
      some (v (x0 + 4) x1, v))))
theorem cX9_valueAt_ok (l : Launch) {E : En_} {sz : Int} (hC : Cl_ E.2.2.2.2.2 sz) {x0 x1 : Int} {v : V_} {out : Int × V_} (T0 : (E.2.2.2.2.2 x0 ∧ ty_ x0 = 9 ∧ ln_ x0 = 0)) (h : fX9_valueAt x0 x1 v = some out) : Met l yX9_valueAt [.code yX9_valueAt cX9_valueAt 2 (some FieldType.long)] (rm_ 0 0) (Pc_ E sz v [(2, x0), (0, x1)]) (Qc_ E sz 1 out.1 out.2) 0 0 (fun q => E.1 < q) := by
  refine met_G0 RX9 (by decide +kernel) rfl (Nat.le_of_ble_eq_true rfl) ?_
  intro p e s m args below meth c C hr hlk
  rw [fX9_valueAt] at h
  refine g_iload_n C (f := 1) dX9_valueAt_0 1 rfl ?_
  refine g_if_lt C 21 dX9_valueAt_1 rfl (fun c1 => ?_) (fun c1 => ?_)
  · replace h := if_t h c1
    refine g_lconst C (z := 0) dX9_valueAt_21 (by decide) ?_
    cases h
    exact g_lret C dX9_valueAt_22 hr hlk
  · replace h := if_f h c1
    refine g_iload_n C (f := 1) dX9_valueAt_4 1 rfl ?_
    refine g_aload_n C (f := 0) dX9_valueAt_5 0 rfl ?_
    refine g_getf C (k := 4) (kd := 0) okX9 (by decide) kf_RX9_43 dX9_valueAt_6 (rg_ hC T0.1) T0.2.1 rfl ?_
    refine g_icmp_ge C 21 dX9_valueAt_9 rfl (fun c2 => ?_) (fun c2 => ?_)
    · replace h := if_t h c2
      refine g_lconst C (z := 0) dX9_valueAt_21 (by decide) ?_
      cases h
      exact g_lret C dX9_valueAt_22 hr hlk
    · replace h := if_f h c2
      refine g_aload_n C (f := 0) dX9_valueAt_12 0 rfl ?_
      have F3 := fX9_3 hC T0.1 T0.2.1
      refine g_getR C (k := 3) (o := 4) okX9 (by decide) kf_RX9_22 dX9_valueAt_13 hC T0.1 T0.2.1 rfl rfl ?_
      refine g_iload_n C (f := 1) dX9_valueAt_16 1 rfl ?_
      obtain ⟨c4, h⟩ := ck_e h
      refine g_lald C 402 dX9_valueAt_17 (rg_ hC F3.1) F3.2.1 F3.2.2 c4 ?_
      refine g_goto C 22 dX9_valueAt_18 rfl ?_
      cases h
      exact g_lret C dX9_valueAt_22 hr hlk
theorem dX3_takeValue_0 : decode cX3_takeValue 0 = .ok (.aload_n 0, 1) := by decide +kernel
theorem dX3_takeValue_1 : decode cX3_takeValue 1 = .ok (.invokevirtual 135, 3) := by decide +kernel
theorem dX3_takeValue_4 : decode cX3_takeValue 4 = .ok (.ifCond .eq 10, 3) := by decide +kernel
theorem dX3_takeValue_7 : decode cX3_takeValue 7 = .ok (.aload_n 0, 1) := by decide +kernel
theorem dX3_takeValue_8 : decode cX3_takeValue 8 = .ok (.invokevirtual 145, 3) := by decide +kernel
theorem dX3_takeValue_11 : decode cX3_takeValue 11 = .ok (.iconst (-1), 1) := by decide +kernel
theorem dX3_takeValue_12 : decode cX3_takeValue 12 = .ok (.ixor, 1) := by decide +kernel
theorem dX3_takeValue_13 : decode cX3_takeValue 13 = .ok (.ireturn, 1) := by decide +kernel
theorem dX3_takeValue_14 : decode cX3_takeValue 14 = .ok (.aload_n 0, 1) := by decide +kernel
theorem dX3_takeValue_15 : decode cX3_takeValue 15 = .ok (.getfield 12, 3) := by decide +kernel
theorem dX3_takeValue_18 : decode cX3_takeValue 18 = .ok (.aload_n 0, 1) := by decide +kernel
theorem dX3_takeValue_19 : decode cX3_takeValue 19 = .ok (.getfield 44, 3) := by decide +kernel
theorem dX3_takeValue_22 : decode cX3_takeValue 22 = .ok (.invokevirtual 103, 3) := by decide +kernel
theorem dX3_takeValue_25 : decode cX3_takeValue 25 = .ok (.l2i, 1) := by decide +kernel
theorem dX3_takeValue_26 : decode cX3_takeValue 26 = .ok (.istore_n 1, 1) := by decide +kernel
theorem dX3_takeValue_27 : decode cX3_takeValue 27 = .ok (.aload_n 0, 1) := by decide +kernel
theorem dX3_takeValue_28 : decode cX3_takeValue 28 = .ok (.bipush 18, 2) := by decide +kernel
theorem dX3_takeValue_30 : decode cX3_takeValue 30 = .ok (.invokevirtual 94, 3) := by decide +kernel
theorem dX3_takeValue_33 : decode cX3_takeValue 33 = .ok (.iload_n 1, 1) := by decide +kernel
theorem dX3_takeValue_34 : decode cX3_takeValue 34 = .ok (.ireturn, 1) := by decide +kernel
def fX3_takeValue (x0 : Int) (v : V_) : Option (Int × V_) :=
  bd_ (fX3_seesRegister x0 v) fun q1 =>
  if q1.1 = 0 then (
    bd_ (fX9_valueAt (x0 + 1) (q1.2 x0 5) q1.2) fun q4 =>
    lt_ (wr_ q4.1) fun y5 =>
    bd_ (fX3_expect x0 18 q4.2) fun q6 =>
    some (y5, q6.2))
  else (
    bd_ (fX3_takeRegister x0 q1.2) fun q7 =>
    some (bX_ q7.1 (-1), q7.2))
theorem cX3_takeValue_ok (l : Launch) {E : En_} {sz : Int} (hC : Cl_ E.2.2.2.2.2 sz) (hG : Pg_ E.2.2.2.2.2) {x0 : Int} {v : V_} {out : Int × V_} (T0 : (E.2.2.2.2.2 x0 ∧ ty_ x0 = 3 ∧ ln_ x0 = 0)) (h : fX3_takeValue x0 v = some out) : Met l yX3_takeValue [.code yX3_takeValue cX3_takeValue 2 (some FieldType.int)] (rm_ 3 63) (Pc_ E sz v [(2, x0)]) (Qc_ E sz 0 out.1 out.2) 0 0 (fun q => E.1 < q) := by
  refine met_G0 RX3 (by decide +kernel) rfl (Nat.le_of_ble_eq_true rfl) ?_
  intro p e s m args below meth c C hr hlk
  rw [fX3_takeValue] at h
  refine g_aload_n C (f := 0) dX3_takeValue_0 0 rfl ?_
  obtain ⟨q1, eq1, h⟩ := bd_e h
  refine g_cV C [] (cX3_seesRegister_ok l hC hG T0 eq1) okX3 T0.2.1 (rg_ hC T0.1) km_RX3_135 cv_X3_seesRegister rfl (by decide) rfl rfl (Nat.le_of_ble_eq_true rfl) dX3_takeValue_1 ?_
  refine g_if_eq C 14 dX3_takeValue_4 rfl (fun c2 => ?_) (fun c2 => ?_)
  · replace h := if_t h c2
    refine g_aload_n C (f := 0) dX3_takeValue_14 0 rfl ?_
    have F3 := fX3_0 hC T0.1 T0.2.1
    refine g_getR C (k := 0) (o := 1) okX3 (by decide) kf_RX3_12 dX3_takeValue_15 hC T0.1 T0.2.1 rfl rfl ?_
    refine g_aload_n C (f := 0) dX3_takeValue_18 0 rfl ?_
    refine g_getf C (k := 5) (kd := 0) okX3 (by decide) kf_RX3_44 dX3_takeValue_19 (rg_ hC T0.1) T0.2.1 rfl ?_
    obtain ⟨q4, eq4, h⟩ := bd_e h
    refine g_cV C [(0, q1.2 x0 5)] (cX9_valueAt_ok l hC F3 eq4) okX9 F3.2.1 (rg_ hC F3.1) km_RX3_103 cv_X9_valueAt rfl (by decide) rfl rfl (Nat.le_of_ble_eq_true rfl) dX3_takeValue_22 ?_
    refine g_l2i C dX3_takeValue_25 ?_
    obtain ⟨y5, ey5, h⟩ := lt_e h
    refine g_set C ey5 ?_
    refine g_istore_n C (f := 1) (ls' := [(1, (0, y5)), (0, (2, x0))]) dX3_takeValue_26 (by decide) rfl ?_
    refine g_aload_n C (f := 0) dX3_takeValue_27 1 rfl ?_
    refine g_bipush C (n := 18) dX3_takeValue_28 (by decide) ?_
    obtain ⟨q6, eq6, h⟩ := bd_e h
    refine g_cV C [(0, 18)] (cX3_expect_ok l hC hG T0 eq6) okX3 T0.2.1 (rg_ hC T0.1) km_RX3_94 cv_X3_expect rfl (by decide) rfl rfl (Nat.le_of_ble_eq_true rfl) dX3_takeValue_30 ?_
    refine g_iload_n C (f := 1) dX3_takeValue_33 0 rfl ?_
    cases h
    exact g_iret C dX3_takeValue_34 hr hlk
  · replace h := if_f h c2
    refine g_aload_n C (f := 0) dX3_takeValue_7 0 rfl ?_
    obtain ⟨q7, eq7, h⟩ := bd_e h
    refine g_cV C [] (cX3_takeRegister_ok l hC hG T0 eq7) okX3 T0.2.1 (rg_ hC T0.1) km_RX3_145 cv_X3_takeRegister rfl (by decide) rfl rfl (Nat.le_of_ble_eq_true rfl) dX3_takeValue_8 ?_
    refine g_iconst C (n := (-1)) dX3_takeValue_11 (by decide) ?_
    refine g_ixor C dX3_takeValue_12 ?_
    cases h
    exact g_iret C dX3_takeValue_13 hr hlk
theorem dX9_placeAt_0 : decode cX9_placeAt 0 = .ok (.iload_n 1, 1) := by decide +kernel
theorem dX9_placeAt_1 : decode cX9_placeAt 1 = .ok (.ifCond .lt 20, 3) := by decide +kernel
theorem dX9_placeAt_4 : decode cX9_placeAt 4 = .ok (.iload_n 1, 1) := by decide +kernel
theorem dX9_placeAt_5 : decode cX9_placeAt 5 = .ok (.aload_n 0, 1) := by decide +kernel
theorem dX9_placeAt_6 : decode cX9_placeAt 6 = .ok (.getfield 43, 3) := by decide +kernel
theorem dX9_placeAt_9 : decode cX9_placeAt 9 = .ok (.if_icmp .ge 12, 3) := by decide +kernel
theorem dX9_placeAt_12 : decode cX9_placeAt 12 = .ok (.aload_n 0, 1) := by decide +kernel
theorem dX9_placeAt_13 : decode cX9_placeAt 13 = .ok (.getfield 19, 3) := by decide +kernel
theorem dX9_placeAt_16 : decode cX9_placeAt 16 = .ok (.iload_n 1, 1) := by decide +kernel
theorem dX9_placeAt_17 : decode cX9_placeAt 17 = .ok (.iaload, 1) := by decide +kernel
theorem dX9_placeAt_18 : decode cX9_placeAt 18 = .ok (.goto 4, 3) := by decide +kernel
theorem dX9_placeAt_21 : decode cX9_placeAt 21 = .ok (.iconst 0, 1) := by decide +kernel
theorem dX9_placeAt_22 : decode cX9_placeAt 22 = .ok (.ireturn, 1) := by decide +kernel
def fX9_placeAt (x0 x1 : Int) (v : V_) : Option (Int × V_) :=
  if x1 < 0 then (
    some (0, v))
  else (
    if (v x0 4) ≤ x1 then (
      some (0, v))
    else (
      ck_ (0 ≤ x1 ∧ x1 < 402) (
      some (v (x0 + 3) x1, v))))
theorem cX9_placeAt_ok (l : Launch) {E : En_} {sz : Int} (hC : Cl_ E.2.2.2.2.2 sz) {x0 x1 : Int} {v : V_} {out : Int × V_} (T0 : (E.2.2.2.2.2 x0 ∧ ty_ x0 = 9 ∧ ln_ x0 = 0)) (h : fX9_placeAt x0 x1 v = some out) : Met l yX9_placeAt [.code yX9_placeAt cX9_placeAt 2 (some FieldType.int)] (rm_ 0 0) (Pc_ E sz v [(2, x0), (0, x1)]) (Qc_ E sz 0 out.1 out.2) 0 0 (fun q => E.1 < q) := by
  refine met_G0 RX9 (by decide +kernel) rfl (Nat.le_of_ble_eq_true rfl) ?_
  intro p e s m args below meth c C hr hlk
  rw [fX9_placeAt] at h
  refine g_iload_n C (f := 1) dX9_placeAt_0 1 rfl ?_
  refine g_if_lt C 21 dX9_placeAt_1 rfl (fun c1 => ?_) (fun c1 => ?_)
  · replace h := if_t h c1
    refine g_iconst C (n := 0) dX9_placeAt_21 (by decide) ?_
    cases h
    exact g_iret C dX9_placeAt_22 hr hlk
  · replace h := if_f h c1
    refine g_iload_n C (f := 1) dX9_placeAt_4 1 rfl ?_
    refine g_aload_n C (f := 0) dX9_placeAt_5 0 rfl ?_
    refine g_getf C (k := 4) (kd := 0) okX9 (by decide) kf_RX9_43 dX9_placeAt_6 (rg_ hC T0.1) T0.2.1 rfl ?_
    refine g_icmp_ge C 21 dX9_placeAt_9 rfl (fun c2 => ?_) (fun c2 => ?_)
    · replace h := if_t h c2
      refine g_iconst C (n := 0) dX9_placeAt_21 (by decide) ?_
      cases h
      exact g_iret C dX9_placeAt_22 hr hlk
    · replace h := if_f h c2
      refine g_aload_n C (f := 0) dX9_placeAt_12 0 rfl ?_
      have F3 := fX9_2 hC T0.1 T0.2.1
      refine g_getR C (k := 2) (o := 3) okX9 (by decide) kf_RX9_19 dX9_placeAt_13 hC T0.1 T0.2.1 rfl rfl ?_
      refine g_iload_n C (f := 1) dX9_placeAt_16 1 rfl ?_
      obtain ⟨c4, h⟩ := ck_e h
      refine g_iald C 402 dX9_placeAt_17 (rg_ hC F3.1) F3.2.1 F3.2.2 c4 ?_
      refine g_goto C 22 dX9_placeAt_18 rfl ?_
      cases h
      exact g_iret C dX9_placeAt_22 hr hlk
theorem dX3_tellWay_0 : decode cX3_tellWay 0 = .ok (.aload_n 0, 1) := by decide +kernel
theorem dX3_tellWay_1 : decode cX3_tellWay 1 = .ok (.getfield 25, 3) := by decide +kernel
theorem dX3_tellWay_4 : decode cX3_tellWay 4 = .ok (.iload_n 1, 1) := by decide +kernel
theorem dX3_tellWay_5 : decode cX3_tellWay 5 = .ok (.iconst 2, 1) := by decide +kernel
theorem dX3_tellWay_6 : decode cX3_tellWay 6 = .ok (.imul, 1) := by decide +kernel
theorem dX3_tellWay_7 : decode cX3_tellWay 7 = .ok (.iload_n 2, 1) := by decide +kernel
theorem dX3_tellWay_8 : decode cX3_tellWay 8 = .ok (.iadd, 1) := by decide +kernel
theorem dX3_tellWay_9 : decode cX3_tellWay 9 = .ok (.aload_n 0, 1) := by decide +kernel
theorem dX3_tellWay_10 : decode cX3_tellWay 10 = .ok (.getfield 12, 3) := by decide +kernel
theorem dX3_tellWay_13 : decode cX3_tellWay 13 = .ok (.aload_n 0, 1) := by decide +kernel
theorem dX3_tellWay_14 : decode cX3_tellWay 14 = .ok (.getfield 44, 3) := by decide +kernel
theorem dX3_tellWay_17 : decode cX3_tellWay 17 = .ok (.invokevirtual 81, 3) := by decide +kernel
theorem dX3_tellWay_20 : decode cX3_tellWay 20 = .ok (.iastore, 1) := by decide +kernel
theorem dX3_tellWay_21 : decode cX3_tellWay 21 = .ok (.aload_n 0, 1) := by decide +kernel
theorem dX3_tellWay_22 : decode cX3_tellWay 22 = .ok (.getfield 22, 3) := by decide +kernel
theorem dX3_tellWay_25 : decode cX3_tellWay 25 = .ok (.iload_n 1, 1) := by decide +kernel
theorem dX3_tellWay_26 : decode cX3_tellWay 26 = .ok (.iconst 2, 1) := by decide +kernel
theorem dX3_tellWay_27 : decode cX3_tellWay 27 = .ok (.imul, 1) := by decide +kernel
theorem dX3_tellWay_28 : decode cX3_tellWay 28 = .ok (.iload_n 2, 1) := by decide +kernel
theorem dX3_tellWay_29 : decode cX3_tellWay 29 = .ok (.iadd, 1) := by decide +kernel
theorem dX3_tellWay_30 : decode cX3_tellWay 30 = .ok (.aload_n 0, 1) := by decide +kernel
theorem dX3_tellWay_31 : decode cX3_tellWay 31 = .ok (.getfield 12, 3) := by decide +kernel
theorem dX3_tellWay_34 : decode cX3_tellWay 34 = .ok (.aload_n 0, 1) := by decide +kernel
theorem dX3_tellWay_35 : decode cX3_tellWay 35 = .ok (.getfield 44, 3) := by decide +kernel
theorem dX3_tellWay_38 : decode cX3_tellWay 38 = .ok (.invokevirtual 103, 3) := by decide +kernel
theorem dX3_tellWay_41 : decode cX3_tellWay 41 = .ok (.lastore, 1) := by decide +kernel
theorem dX3_tellWay_42 : decode cX3_tellWay 42 = .ok (.aload_n 0, 1) := by decide +kernel
theorem dX3_tellWay_43 : decode cX3_tellWay 43 = .ok (.bipush 17, 2) := by decide +kernel
theorem dX3_tellWay_45 : decode cX3_tellWay 45 = .ok (.invokevirtual 94, 3) := by decide +kernel
theorem dX3_tellWay_48 : decode cX3_tellWay 48 = .ok (.return_, 1) := by decide +kernel
def fX3_tellWay (x0 x1 x2 : Int) (v : V_) : Option (Int × V_) :=
  bd_ (fX9_placeAt (x0 + 1) (v x0 5) v) fun q3 =>
  ck_ (0 ≤ wr_ ((wr_ (x1 * 2)) + x2) ∧ wr_ ((wr_ (x1 * 2)) + x2) < 16) (
  lt_ (up_ q3.2 (x0 + 8) (wr_ ((wr_ (x1 * 2)) + x2)) q3.1) fun v5 =>
  bd_ (fX9_valueAt (x0 + 1) (v5 x0 5) v5) fun q8 =>
  ck_ (0 ≤ wr_ ((wr_ (x1 * 2)) + x2) ∧ wr_ ((wr_ (x1 * 2)) + x2) < 16) (
  lt_ (up_ q8.2 (x0 + 7) (wr_ ((wr_ (x1 * 2)) + x2)) q8.1) fun v10 =>
  bd_ (fX3_expect x0 17 v10) fun q11 =>
  some (0, q11.2)))
theorem cX3_tellWay_ok (l : Launch) {E : En_} {sz : Int} (hC : Cl_ E.2.2.2.2.2 sz) (hG : Pg_ E.2.2.2.2.2) {x0 x1 x2 : Int} {v : V_} {out : Int × V_} (T0 : (E.2.2.2.2.2 x0 ∧ ty_ x0 = 3 ∧ ln_ x0 = 0)) (h : fX3_tellWay x0 x1 x2 v = some out) : Met l yX3_tellWay [.code yX3_tellWay cX3_tellWay 3 (none : Option FieldType)] (rm_ 3 63) (Pc_ E sz v [(2, x0), (0, x1), (0, x2)]) (Qc_ E sz 9 out.1 out.2) 0 0 (fun q => E.1 < q) := by
  refine met_G0 RX3 (by decide +kernel) rfl (Nat.le_of_ble_eq_true rfl) ?_
  intro p e s m args below meth c C hr hlk
  rw [fX3_tellWay] at h
  refine g_aload_n C (f := 0) dX3_tellWay_0 0 rfl ?_
  have F1 := fX3_3 hC T0.1 T0.2.1
  refine g_getR C (k := 3) (o := 8) okX3 (by decide) kf_RX3_25 dX3_tellWay_1 hC T0.1 T0.2.1 rfl rfl ?_
  refine g_iload_n C (f := 1) dX3_tellWay_4 1 rfl ?_
  refine g_iconst C (n := 2) dX3_tellWay_5 (by decide) ?_
  refine g_imul C dX3_tellWay_6 ?_
  refine g_iload_n C (f := 2) dX3_tellWay_7 2 rfl ?_
  refine g_iadd C dX3_tellWay_8 ?_
  refine g_aload_n C (f := 0) dX3_tellWay_9 0 rfl ?_
  have F2 := fX3_0 hC T0.1 T0.2.1
  refine g_getR C (k := 0) (o := 1) okX3 (by decide) kf_RX3_12 dX3_tellWay_10 hC T0.1 T0.2.1 rfl rfl ?_
  refine g_aload_n C (f := 0) dX3_tellWay_13 0 rfl ?_
  refine g_getf C (k := 5) (kd := 0) okX3 (by decide) kf_RX3_44 dX3_tellWay_14 (rg_ hC T0.1) T0.2.1 rfl ?_
  obtain ⟨q3, eq3, h⟩ := bd_e h
  refine g_cV C [(0, v x0 5)] (cX9_placeAt_ok l hC F2 eq3) okX9 F2.2.1 (rg_ hC F2.1) km_RX3_81 cv_X9_placeAt rfl (by decide) rfl rfl (Nat.le_of_ble_eq_true rfl) dX3_tellWay_17 ?_
  obtain ⟨c4, h⟩ := ck_e h
  obtain ⟨v5, ev5, h⟩ := lt_e h
  refine g_iast C 16 dX3_tellWay_20 (rg_ hC F1.1) F1.2.1 F1.2.2 c4 v5 ev5 ?_
  refine g_aload_n C (f := 0) dX3_tellWay_21 0 rfl ?_
  have F6 := fX3_2 hC T0.1 T0.2.1
  refine g_getR C (k := 2) (o := 7) okX3 (by decide) kf_RX3_22 dX3_tellWay_22 hC T0.1 T0.2.1 rfl rfl ?_
  refine g_iload_n C (f := 1) dX3_tellWay_25 1 rfl ?_
  refine g_iconst C (n := 2) dX3_tellWay_26 (by decide) ?_
  refine g_imul C dX3_tellWay_27 ?_
  refine g_iload_n C (f := 2) dX3_tellWay_28 2 rfl ?_
  refine g_iadd C dX3_tellWay_29 ?_
  refine g_aload_n C (f := 0) dX3_tellWay_30 0 rfl ?_
  have F7 := fX3_0 hC T0.1 T0.2.1
  refine g_getR C (k := 0) (o := 1) okX3 (by decide) kf_RX3_12 dX3_tellWay_31 hC T0.1 T0.2.1 rfl rfl ?_
  refine g_aload_n C (f := 0) dX3_tellWay_34 0 rfl ?_
  refine g_getf C (k := 5) (kd := 0) okX3 (by decide) kf_RX3_44 dX3_tellWay_35 (rg_ hC T0.1) T0.2.1 rfl ?_
  obtain ⟨q8, eq8, h⟩ := bd_e h
  refine g_cV C [(0, v5 x0 5)] (cX9_valueAt_ok l hC F7 eq8) okX9 F7.2.1 (rg_ hC F7.1) km_RX3_103 cv_X9_valueAt rfl (by decide) rfl rfl (Nat.le_of_ble_eq_true rfl) dX3_tellWay_38 ?_
  obtain ⟨c9, h⟩ := ck_e h
  obtain ⟨v10, ev10, h⟩ := lt_e h
  refine g_last C 16 dX3_tellWay_41 (rg_ hC F6.1) F6.2.1 F6.2.2 c9 v10 ev10 ?_
  refine g_aload_n C (f := 0) dX3_tellWay_42 0 rfl ?_
  refine g_bipush C (n := 17) dX3_tellWay_43 (by decide) ?_
  obtain ⟨q11, eq11, h⟩ := bd_e h
  refine g_cV C [(0, 17)] (cX3_expect_ok l hC hG T0 eq11) okX3 T0.2.1 (rg_ hC T0.1) km_RX3_94 cv_X3_expect rfl (by decide) rfl rfl (Nat.le_of_ble_eq_true rfl) dX3_tellWay_45 ?_
  cases h
  exact g_vret C dX3_tellWay_48 hr hlk
theorem dX8_tell_0 : decode cX8_tell 0 = .ok (.aload_n 0, 1) := by decide +kernel
theorem dX8_tell_1 : decode cX8_tell 1 = .ok (.iload_n 1, 1) := by decide +kernel
theorem dX8_tell_2 : decode cX8_tell 2 = .ok (.putfield 9, 3) := by decide +kernel
theorem dX8_tell_5 : decode cX8_tell 5 = .ok (.aload_n 0, 1) := by decide +kernel
theorem dX8_tell_6 : decode cX8_tell 6 = .ok (.iload_n 2, 1) := by decide +kernel
theorem dX8_tell_7 : decode cX8_tell 7 = .ok (.putfield 15, 3) := by decide +kernel
theorem dX8_tell_10 : decode cX8_tell 10 = .ok (.aload_n 0, 1) := by decide +kernel
theorem dX8_tell_11 : decode cX8_tell 11 = .ok (.iload_n 3, 1) := by decide +kernel
theorem dX8_tell_12 : decode cX8_tell 12 = .ok (.putfield 18, 3) := by decide +kernel
theorem dX8_tell_15 : decode cX8_tell 15 = .ok (.aload_n 0, 1) := by decide +kernel
theorem dX8_tell_16 : decode cX8_tell 16 = .ok (.iload 4, 2) := by decide +kernel
theorem dX8_tell_18 : decode cX8_tell 18 = .ok (.putfield 21, 3) := by decide +kernel
theorem dX8_tell_21 : decode cX8_tell 21 = .ok (.return_, 1) := by decide +kernel
def fX8_tell (x0 x1 x2 x3 x4 : Int) (v : V_) : Option (Int × V_) :=
  lt_ (up_ v x0 0 x1) fun v1 =>
  lt_ (up_ v1 x0 1 x2) fun v2 =>
  lt_ (up_ v2 x0 2 x3) fun v3 =>
  lt_ (up_ v3 x0 3 x4) fun v4 =>
  some (0, v4)
theorem cX8_tell_ok (l : Launch) {E : En_} {sz : Int} (hC : Cl_ E.2.2.2.2.2 sz) {x0 x1 x2 x3 x4 : Int} {v : V_} {out : Int × V_} (T0 : (E.2.2.2.2.2 x0 ∧ ty_ x0 = 8 ∧ ln_ x0 = 0)) (h : fX8_tell x0 x1 x2 x3 x4 v = some out) : Met l yX8_tell [.code yX8_tell cX8_tell 5 (none : Option FieldType)] (rm_ 0 0) (Pc_ E sz v [(2, x0), (0, x1), (0, x2), (0, x3), (0, x4)]) (Qc_ E sz 9 out.1 out.2) 0 0 (fun q => E.1 < q) := by
  refine met_G0 RX8 (by decide +kernel) rfl (Nat.le_of_ble_eq_true rfl) ?_
  intro p e s m args below meth c C hr hlk
  rw [fX8_tell] at h
  refine g_aload_n C (f := 0) dX8_tell_0 0 rfl ?_
  refine g_iload_n C (f := 1) dX8_tell_1 1 rfl ?_
  obtain ⟨v1, ev1, h⟩ := lt_e h
  refine g_putf C (k := 0) (kd := 0) okX8 (by decide) kf_RX8_9 dX8_tell_2 (rg_ hC T0.1) T0.2.1 rfl rfl nvI (Or.inl rfl) v1 ev1 ?_
  refine g_aload_n C (f := 0) dX8_tell_5 0 rfl ?_
  refine g_iload_n C (f := 2) dX8_tell_6 2 rfl ?_
  obtain ⟨v2, ev2, h⟩ := lt_e h
  refine g_putf C (k := 1) (kd := 0) okX8 (by decide) kf_RX8_15 dX8_tell_7 (rg_ hC T0.1) T0.2.1 rfl rfl nvI (Or.inl rfl) v2 ev2 ?_
  refine g_aload_n C (f := 0) dX8_tell_10 0 rfl ?_
  refine g_iload_n C (f := 3) dX8_tell_11 3 rfl ?_
  obtain ⟨v3, ev3, h⟩ := lt_e h
  refine g_putf C (k := 2) (kd := 0) okX8 (by decide) kf_RX8_18 dX8_tell_12 (rg_ hC T0.1) T0.2.1 rfl rfl nvI (Or.inl rfl) v3 ev3 ?_
  refine g_aload_n C (f := 0) dX8_tell_15 0 rfl ?_
  refine g_iload C (i := 4) dX8_tell_16 4 rfl ?_
  obtain ⟨v4, ev4, h⟩ := lt_e h
  refine g_putf C (k := 3) (kd := 0) okX8 (by decide) kf_RX8_21 dX8_tell_18 (rg_ hC T0.1) T0.2.1 rfl rfl nvI (Or.inl rfl) v4 ev4 ?_
  cases h
  exact g_vret C dX8_tell_21 hr hlk
