theorem dX11_copied_0 : decode cX11_copied 0 = .ok (.aload_n 0, 1) := by decide +kernel
theorem dX11_copied_1 : decode cX11_copied 1 = .ok (.invokevirtual 145, 3) := by decide +kernel
theorem dX11_copied_4 : decode cX11_copied 4 = .ok (.iload_n 1, 1) := by decide +kernel
theorem dX11_copied_5 : decode cX11_copied 5 = .ok (.invokevirtual 227, 3) := by decide +kernel
theorem dX11_copied_8 : decode cX11_copied 8 = .ok (.astore 4, 2) := by decide +kernel
theorem dX11_copied_10 : decode cX11_copied 10 = .ok (.aload 4, 2) := by decide +kernel
theorem dX11_copied_12 : decode cX11_copied 12 = .ok (.iload_n 2, 1) := by decide +kernel
theorem dX11_copied_13 : decode cX11_copied 13 = .ok (.invokestatic 264, 3) := by decide +kernel
theorem dX11_copied_16 : decode cX11_copied 16 = .ok (.astore 5, 2) := by decide +kernel
theorem dX11_copied_18 : decode cX11_copied 18 = .ok (.aload 5, 2) := by decide +kernel
theorem dX11_copied_20 : decode cX11_copied 20 = .ok (.ifnull 16, 3) := by decide +kernel
theorem dX11_copied_23 : decode cX11_copied 23 = .ok (.iload_n 3, 1) := by decide +kernel
theorem dX11_copied_24 : decode cX11_copied 24 = .ok (.ifCond .lt 12, 3) := by decide +kernel
theorem dX11_copied_27 : decode cX11_copied 27 = .ok (.iload_n 3, 1) := by decide +kernel
theorem dX11_copied_28 : decode cX11_copied 28 = .ok (.aload 5, 2) := by decide +kernel
theorem dX11_copied_30 : decode cX11_copied 30 = .ok (.getfield 296, 3) := by decide +kernel
theorem dX11_copied_33 : decode cX11_copied 33 = .ok (.if_icmp .lt 5, 3) := by decide +kernel
theorem dX11_copied_36 : decode cX11_copied 36 = .ok (.iconst (-1), 1) := by decide +kernel
theorem dX11_copied_37 : decode cX11_copied 37 = .ok (.ireturn, 1) := by decide +kernel
theorem dX11_copied_38 : decode cX11_copied 38 = .ok (.iconst 0, 1) := by decide +kernel
theorem dX11_copied_39 : decode cX11_copied 39 = .ok (.istore 6, 2) := by decide +kernel
theorem dX11_copied_41 : decode cX11_copied 41 = .ok (.iconst 0, 1) := by decide +kernel
theorem dX11_copied_42 : decode cX11_copied 42 = .ok (.istore 7, 2) := by decide +kernel
theorem dX11_copied_44 : decode cX11_copied 44 = .ok (.iload 7, 2) := by decide +kernel
theorem dX11_copied_46 : decode cX11_copied 46 = .ok (.iload_n 2, 1) := by decide +kernel
theorem dX11_copied_47 : decode cX11_copied 47 = .ok (.if_icmp .ge 40, 3) := by decide +kernel
theorem dX11_copied_50 : decode cX11_copied 50 = .ok (.aload 4, 2) := by decide +kernel
theorem dX11_copied_52 : decode cX11_copied 52 = .ok (.getfield 303, 3) := by decide +kernel
theorem dX11_copied_55 : decode cX11_copied 55 = .ok (.iload 7, 2) := by decide +kernel
theorem dX11_copied_57 : decode cX11_copied 57 = .ok (.aaload, 1) := by decide +kernel
theorem dX11_copied_58 : decode cX11_copied 58 = .ok (.getfield 273, 3) := by decide +kernel
theorem dX11_copied_61 : decode cX11_copied 61 = .ok (.aload 5, 2) := by decide +kernel
theorem dX11_copied_63 : decode cX11_copied 63 = .ok (.getfield 273, 3) := by decide +kernel
theorem dX11_copied_66 : decode cX11_copied 66 = .ok (.if_icmp .le 15, 3) := by decide +kernel
theorem dX11_copied_69 : decode cX11_copied 69 = .ok (.iload 6, 2) := by decide +kernel
theorem dX11_copied_71 : decode cX11_copied 71 = .ok (.iload_n 3, 1) := by decide +kernel
theorem dX11_copied_72 : decode cX11_copied 72 = .ok (.if_icmp .ne 6, 3) := by decide +kernel
theorem dX11_copied_75 : decode cX11_copied 75 = .ok (.iload 7, 2) := by decide +kernel
theorem dX11_copied_77 : decode cX11_copied 77 = .ok (.ireturn, 1) := by decide +kernel
theorem dX11_copied_78 : decode cX11_copied 78 = .ok (.iinc 6 1, 3) := by decide +kernel
theorem dX11_copied_81 : decode cX11_copied 81 = .ok (.iinc 7 1, 3) := by decide +kernel
theorem dX11_copied_84 : decode cX11_copied 84 = .ok (.goto (-40), 3) := by decide +kernel
theorem dX11_copied_87 : decode cX11_copied 87 = .ok (.iconst (-1), 1) := by decide +kernel
theorem dX11_copied_88 : decode cX11_copied 88 = .ok (.ireturn, 1) := by decide +kernel
def fX11_copied_44 : Nat → Int → Int → Int → Int → Int → Int → V_ → Option (Int × V_)
  | 0, _, _, _, _, _, _, _ => none
  | n + 1, x2, x3, x4, x5, x6, x7, v =>
    if x2 ≤ x7 then (
      some ((-1), v))
    else (
      ck_ (¬ x4 = 0) (
      ck_ (0 ≤ x7 ∧ x7 < 34) (
      if (v ((x4 + 2) + (5 + 2 * x7)) 7) ≤ (v x5 7) then (
        lt_ (wr_ (x7 + 1)) fun y18 =>
        (fX11_copied_44 n) x2 x3 x4 x5 x6 y18 v)
      else (
        if x6 = x3 then (
          some (x7, v))
        else (
          lt_ (wr_ (x6 + 1)) fun y20 =>
          lt_ (wr_ (x7 + 1)) fun y21 =>
          (fX11_copied_44 n) x2 x3 x4 x5 y20 y21 v)))))
def fX11_copied (x0 x1 x2 x3 : Int) (v : V_) : Option (Int × V_) :=
  bd_ (fX11_knownPlan x0 v) fun q1 =>
  bd_ (fX4_traceAt q1.1 x1 q1.2) fun q3 =>
  bd_ (fX11_itemOf q3.1 x2 q3.2) fun q5 =>
  if q5.1 = 0 then (
    some ((-1), q5.2))
  else (
    if x3 < 0 then (
      some ((-1), q5.2))
    else (
      if x3 < (q5.2 q5.1 9) then (
        fX11_copied_44 fu_ x2 x3 q3.1 q5.1 0 0 q5.2)
      else (
        some ((-1), q5.2))))
section
variable {E : En_} {p : Program} {l : Launch} {e : Env} {s : State} {m : MethodId} {args : Array Value} {below : List Frame} {meth : Method} {c : Code} {sz : Int}
theorem tX11_copied_44 (C : MC_ E p s m c cX11_copied 8 RX11) (hr : meth.sig.returnType = (some FieldType.int)) (hlk : meth.locks = false) (hC : Cl_ E.2.2.2.2.2 sz) (hG : Pg_ E.2.2.2.2.2) {out : Int × V_} : ∀ (n : Nat) (x2 x3 x4 x5 x6 x7 : Int) (v : V_), (x4 = 0 ∨ (E.2.2.2.2.2 x4 ∧ ty_ x4 = 10 ∧ ln_ x4 = 0)) → (E.2.2.2.2.2 x5 ∧ ty_ x5 = 1 ∧ ln_ x5 = 0) → fX11_copied_44 n x2 x3 x4 x5 x6 x7 v = some out → G_ E p l e (rm_ 6 143) s m args below meth c 8 sz (Q_ E below args s sz sz 0 out.1 out.2) 44 [(2, (0, x2)), (3, (0, x3)), (4, (2, x4)), (5, (2, x5)), (6, (0, x6)), (7, (0, x7))] [] v sz := by
  intro n
  induction n with
  | zero =>
    intro x2 x3 x4 x5 x6 x7 v T4 T5 h
    cases h
  | succ n H_44 =>
    intro x2 x3 x4 x5 x6 x7 v T4 T5 h
    rw [fX11_copied_44] at h
    refine g_iload C (i := 7) dX11_copied_44 5 rfl ?_
    refine g_iload_n C (f := 2) dX11_copied_46 0 rfl ?_
    refine g_icmp_ge C 87 dX11_copied_47 rfl (fun c11 => ?_) (fun c11 => ?_)
    · replace h := if_t h c11
      refine g_iconst C (n := (-1)) dX11_copied_87 (by decide) ?_
      cases h
      exact g_iret C dX11_copied_88 hr hlk
    · replace h := if_f h c11
      refine g_aload C (i := 4) dX11_copied_50 2 rfl ?_
      obtain ⟨c12, h⟩ := ck_e h
      have F13 := Or.resolve_left T4 c12
      have F14 := fX10_2 hC F13.1 F13.2.1
      refine g_getR C (k := 2) (o := 2) okX10 (by decide) kf_RX11_303 dX11_copied_52 hC F13.1 F13.2.1 rfl rfl ?_
      refine g_iload C (i := 7) dX11_copied_55 5 rfl ?_
      obtain ⟨c15, h⟩ := ck_e h
      have F16 := fE_items (i := x7) hC F14.1 F14.2.1 F14.2.2 c15
      refine g_aald C 26 34 5 2 dX11_copied_57 hC F14.1 F14.2.1 F14.2.2 c15 (by decide) oA_items ?_
      refine g_getf C (k := 7) (kd := 0) okX1 (by decide) kf_RX11_273 dX11_copied_58 (rg_ hC F16.1) F16.2.1 rfl ?_
      refine g_aload C (i := 5) dX11_copied_61 3 rfl ?_
      refine g_getf C (k := 7) (kd := 0) okX1 (by decide) kf_RX11_273 dX11_copied_63 (rg_ hC T5.1) T5.2.1 rfl ?_
      refine g_icmp_le C 81 dX11_copied_66 rfl (fun c17 => ?_) (fun c17 => ?_)
      · replace h := if_t h c17
        obtain ⟨y18, ey18, h⟩ := lt_e h
        refine g_iincx C (ls' := [(7, (0, y18)), (2, (0, x2)), (3, (0, x3)), (4, (2, x4)), (5, (2, x5)), (6, (0, x6))]) ey18 dX11_copied_81 5 rfl (by decide) (by decide) rfl ?_
        refine g_goto C 44 dX11_copied_84 rfl ?_
        refine g_sub [1, 2, 3, 4, 5, 0] rfl rfl ?_
        exact H_44 _ _ _ _ _ _ _ T4 T5 h
      · replace h := if_f h c17
        refine g_iload C (i := 6) dX11_copied_69 4 rfl ?_
        refine g_iload_n C (f := 3) dX11_copied_71 1 rfl ?_
        refine g_icmp_ne C 78 dX11_copied_72 rfl (fun c19 => ?_) (fun c19 => ?_)
        · replace h := if_f h c19
          obtain ⟨y20, ey20, h⟩ := lt_e h
          refine g_iincx C (ls' := [(6, (0, y20)), (2, (0, x2)), (3, (0, x3)), (4, (2, x4)), (5, (2, x5)), (7, (0, x7))]) ey20 dX11_copied_78 4 rfl (by decide) (by decide) rfl ?_
          obtain ⟨y21, ey21, h⟩ := lt_e h
          refine g_iincx C (ls' := [(7, (0, y21)), (6, (0, y20)), (2, (0, x2)), (3, (0, x3)), (4, (2, x4)), (5, (2, x5))]) ey21 dX11_copied_81 5 rfl (by decide) (by decide) rfl ?_
          refine g_goto C 44 dX11_copied_84 rfl ?_
          refine g_sub [2, 3, 4, 5, 1, 0] rfl rfl ?_
          exact H_44 _ _ _ _ _ _ _ T4 T5 h
        · replace h := if_t h c19
          refine g_iload C (i := 7) dX11_copied_75 5 rfl ?_
          cases h
          exact g_iret C dX11_copied_77 hr hlk
end
theorem cX11_copied_ok (l : Launch) {E : En_} {sz : Int} (hC : Cl_ E.2.2.2.2.2 sz) (hG : Pg_ E.2.2.2.2.2) {x0 x1 x2 x3 : Int} {v : V_} {out : Int × V_} (T0 : (E.2.2.2.2.2 x0 ∧ ty_ x0 = 11 ∧ ln_ x0 = 0)) (h : fX11_copied x0 x1 x2 x3 v = some out) : Met l yX11_copied [.code yX11_copied cX11_copied 8 (some FieldType.int)] (rm_ 6 143) (Pc_ E sz v [(2, x0), (0, x1), (0, x2), (0, x3)]) (Qc_ E sz 0 out.1 out.2) 0 0 (fun q => E.1 < q) := by
  refine met_G0 RX11 (by decide +kernel) rfl (Nat.le_of_ble_eq_true rfl) ?_
  intro p e s m args below meth c C hr hlk
  rw [fX11_copied] at h
  refine g_aload_n C (f := 0) dX11_copied_0 0 rfl ?_
  obtain ⟨q1, eq1, h⟩ := bd_e h
  refine g_cV C [] (cX11_knownPlan_ok l hC hG T0 eq1) okX11 T0.2.1 (rg_ hC T0.1) km_RX11_145 cv_X11_knownPlan rfl (by decide) rfl rfl (Nat.le_of_ble_eq_true rfl) dX11_copied_1 ?_
  have F2 := rX11_knownPlan_ok hC hG T0 eq1
  refine g_iload_n C (f := 1) dX11_copied_4 1 rfl ?_
  obtain ⟨q3, eq3, h⟩ := bd_e h
  refine g_cV C [(0, x1)] (cX4_traceAt_ok l hC F2 eq3) okX4 F2.2.1 (rg_ hC F2.1) km_RX11_227 cv_X4_traceAt rfl (by decide) rfl rfl (Nat.le_of_ble_eq_true rfl) dX11_copied_5 ?_
  have F4 := rX4_traceAt_ok hC F2 eq3
  refine g_astore C (i := 4) (ls' := [(4, (2, q3.1)), (0, (2, x0)), (1, (0, x1)), (2, (0, x2)), (3, (0, x3))]) dX11_copied_8 (by decide) rfl ?_
  refine g_aload C (i := 4) dX11_copied_10 0 rfl ?_
  refine g_iload_n C (f := 2) dX11_copied_12 3 rfl ?_
  obtain ⟨q5, eq5, h⟩ := bd_e h
  refine g_cS C [(2, q3.1), (0, x2)] (cX11_itemOf_ok l hC F4 eq5) km_RX11_264 cs_X11_itemOf rfl (by decide) rfl rfl (Nat.le_of_ble_eq_true rfl) dX11_copied_13 ?_
  have F6 := rX11_itemOf_ok hC F4 eq5
  refine g_astore C (i := 5) (ls' := [(5, (2, q5.1)), (4, (2, q3.1)), (0, (2, x0)), (1, (0, x1)), (2, (0, x2)), (3, (0, x3))]) dX11_copied_16 (by decide) rfl ?_
  refine g_aload C (i := 5) dX11_copied_18 0 rfl ?_
  refine g_ifnull C 36 dX11_copied_20 rfl (fun c7 => ?_) (fun c7 => ?_)
  · replace h := if_t h c7
    refine g_iconst C (n := (-1)) dX11_copied_36 (by decide) ?_
    cases h
    exact g_iret C dX11_copied_37 hr hlk
  · replace h := if_f h c7
    have F8 := Or.resolve_left F6 c7
    refine g_iload_n C (f := 3) dX11_copied_23 5 rfl ?_
    refine g_if_lt C 36 dX11_copied_24 rfl (fun c9 => ?_) (fun c9 => ?_)
    · replace h := if_t h c9
      refine g_iconst C (n := (-1)) dX11_copied_36 (by decide) ?_
      cases h
      exact g_iret C dX11_copied_37 hr hlk
    · replace h := if_f h c9
      refine g_iload_n C (f := 3) dX11_copied_27 5 rfl ?_
      refine g_aload C (i := 5) dX11_copied_28 0 rfl ?_
      refine g_getf C (k := 9) (kd := 0) okX1 (by decide) kf_RX11_296 dX11_copied_30 (rg_ hC F8.1) F8.2.1 rfl ?_
      refine g_icmp_lt C 38 dX11_copied_33 rfl (fun c10 => ?_) (fun c10 => ?_)
      · replace h := if_t h c10
        refine g_iconst C (n := 0) dX11_copied_38 (by decide) ?_
        refine g_istore C (i := 6) (ls' := [(6, (0, 0)), (5, (2, q5.1)), (4, (2, q3.1)), (0, (2, x0)), (1, (0, x1)), (2, (0, x2)), (3, (0, x3))]) dX11_copied_39 (by decide) rfl ?_
        refine g_iconst C (n := 0) dX11_copied_41 (by decide) ?_
        refine g_istore C (i := 7) (ls' := [(7, (0, 0)), (6, (0, 0)), (5, (2, q5.1)), (4, (2, q3.1)), (0, (2, x0)), (1, (0, x1)), (2, (0, x2)), (3, (0, x3))]) dX11_copied_42 (by decide) rfl ?_
        refine g_sub [6, 7, 3, 2, 1, 0] rfl rfl ?_
        exact tX11_copied_44 C hr hlk hC hG _ _ _ _ _ _ _ _ F4 F8 h
      · replace h := if_f h c10
        refine g_iconst C (n := (-1)) dX11_copied_36 (by decide) ?_
        cases h
        exact g_iret C dX11_copied_37 hr hlk
theorem dX11_count_0 : decode cX11_count 0 = .ok (.iload_n 1, 1) := by decide +kernel
theorem dX11_count_1 : decode cX11_count 1 = .ok (.tableswitch 169 0 11 #[63, 71, 79, 95, 103, 112, 121, 130, 139, 144, 152, 161], 63) := by decide +kernel
theorem dX11_count_64 : decode cX11_count 64 = .ok (.aload_n 0, 1) := by decide +kernel
theorem dX11_count_65 : decode cX11_count 65 = .ok (.getfield 27, 3) := by decide +kernel
theorem dX11_count_68 : decode cX11_count 68 = .ok (.getfield 329, 3) := by decide +kernel
theorem dX11_count_71 : decode cX11_count 71 = .ok (.ireturn, 1) := by decide +kernel
theorem dX11_count_72 : decode cX11_count 72 = .ok (.aload_n 0, 1) := by decide +kernel
theorem dX11_count_73 : decode cX11_count 73 = .ok (.getfield 27, 3) := by decide +kernel
theorem dX11_count_76 : decode cX11_count 76 = .ok (.invokevirtual 326, 3) := by decide +kernel
theorem dX11_count_79 : decode cX11_count 79 = .ok (.ireturn, 1) := by decide +kernel
theorem dX11_count_80 : decode cX11_count 80 = .ok (.aload_n 0, 1) := by decide +kernel
theorem dX11_count_81 : decode cX11_count 81 = .ok (.getfield 37, 3) := by decide +kernel
theorem dX11_count_84 : decode cX11_count 84 = .ok (.invokevirtual 208, 3) := by decide +kernel
theorem dX11_count_87 : decode cX11_count 87 = .ok (.ifCond .eq 7, 3) := by decide +kernel
theorem dX11_count_90 : decode cX11_count 90 = .ok (.iconst 1, 1) := by decide +kernel
theorem dX11_count_91 : decode cX11_count 91 = .ok (.goto 4, 3) := by decide +kernel
theorem dX11_count_94 : decode cX11_count 94 = .ok (.iconst 0, 1) := by decide +kernel
theorem dX11_count_95 : decode cX11_count 95 = .ok (.ireturn, 1) := by decide +kernel
theorem dX11_count_96 : decode cX11_count 96 = .ok (.aload_n 0, 1) := by decide +kernel
theorem dX11_count_97 : decode cX11_count 97 = .ok (.getfield 37, 3) := by decide +kernel
theorem dX11_count_100 : decode cX11_count 100 = .ok (.invokevirtual 202, 3) := by decide +kernel
theorem dX11_count_103 : decode cX11_count 103 = .ok (.ireturn, 1) := by decide +kernel
theorem dX11_count_104 : decode cX11_count 104 = .ok (.aload_n 0, 1) := by decide +kernel
theorem dX11_count_105 : decode cX11_count 105 = .ok (.invokevirtual 145, 3) := by decide +kernel
theorem dX11_count_108 : decode cX11_count 108 = .ok (.iconst 1, 1) := by decide +kernel
theorem dX11_count_109 : decode cX11_count 109 = .ok (.invokevirtual 335, 3) := by decide +kernel
theorem dX11_count_112 : decode cX11_count 112 = .ok (.ireturn, 1) := by decide +kernel
theorem dX11_count_113 : decode cX11_count 113 = .ok (.aload_n 0, 1) := by decide +kernel
theorem dX11_count_114 : decode cX11_count 114 = .ok (.invokevirtual 145, 3) := by decide +kernel
theorem dX11_count_117 : decode cX11_count 117 = .ok (.iconst 2, 1) := by decide +kernel
theorem dX11_count_118 : decode cX11_count 118 = .ok (.invokevirtual 335, 3) := by decide +kernel
theorem dX11_count_121 : decode cX11_count 121 = .ok (.ireturn, 1) := by decide +kernel
theorem dX11_count_122 : decode cX11_count 122 = .ok (.aload_n 0, 1) := by decide +kernel
theorem dX11_count_123 : decode cX11_count 123 = .ok (.invokevirtual 145, 3) := by decide +kernel
theorem dX11_count_126 : decode cX11_count 126 = .ok (.iconst 3, 1) := by decide +kernel
theorem dX11_count_127 : decode cX11_count 127 = .ok (.invokevirtual 335, 3) := by decide +kernel
theorem dX11_count_130 : decode cX11_count 130 = .ok (.ireturn, 1) := by decide +kernel
theorem dX11_count_131 : decode cX11_count 131 = .ok (.aload_n 0, 1) := by decide +kernel
theorem dX11_count_132 : decode cX11_count 132 = .ok (.invokevirtual 145, 3) := by decide +kernel
theorem dX11_count_135 : decode cX11_count 135 = .ok (.iconst 4, 1) := by decide +kernel
theorem dX11_count_136 : decode cX11_count 136 = .ok (.invokevirtual 335, 3) := by decide +kernel
theorem dX11_count_139 : decode cX11_count 139 = .ok (.ireturn, 1) := by decide +kernel
theorem dX11_count_140 : decode cX11_count 140 = .ok (.aload_n 0, 1) := by decide +kernel
theorem dX11_count_141 : decode cX11_count 141 = .ok (.getfield 69, 3) := by decide +kernel
theorem dX11_count_144 : decode cX11_count 144 = .ok (.ireturn, 1) := by decide +kernel
theorem dX11_count_145 : decode cX11_count 145 = .ok (.aload_n 0, 1) := by decide +kernel
theorem dX11_count_146 : decode cX11_count 146 = .ok (.getfield 44, 3) := by decide +kernel
theorem dX11_count_149 : decode cX11_count 149 = .ok (.getfield 358, 3) := by decide +kernel
theorem dX11_count_152 : decode cX11_count 152 = .ok (.ireturn, 1) := by decide +kernel
theorem dX11_count_153 : decode cX11_count 153 = .ok (.aload_n 0, 1) := by decide +kernel
theorem dX11_count_154 : decode cX11_count 154 = .ok (.invokevirtual 145, 3) := by decide +kernel
theorem dX11_count_157 : decode cX11_count 157 = .ok (.iconst 5, 1) := by decide +kernel
theorem dX11_count_158 : decode cX11_count 158 = .ok (.invokevirtual 335, 3) := by decide +kernel
theorem dX11_count_161 : decode cX11_count 161 = .ok (.ireturn, 1) := by decide +kernel
theorem dX11_count_162 : decode cX11_count 162 = .ok (.aload_n 0, 1) := by decide +kernel
theorem dX11_count_163 : decode cX11_count 163 = .ok (.getfield 44, 3) := by decide +kernel
theorem dX11_count_166 : decode cX11_count 166 = .ok (.invokevirtual 361, 3) := by decide +kernel
theorem dX11_count_169 : decode cX11_count 169 = .ok (.ireturn, 1) := by decide +kernel
theorem dX11_count_170 : decode cX11_count 170 = .ok (.iconst (-1), 1) := by decide +kernel
theorem dX11_count_171 : decode cX11_count 171 = .ok (.ireturn, 1) := by decide +kernel
def fX11_count (x0 x1 : Int) (v : V_) : Option (Int × V_) :=
  if x1 = 0 then (
    ck_ (v x0 4 = PA_ ∨ v x0 4 = PB_) (
    some (v (v x0 4) 0, v)))
  else (
  if x1 = 1 then (
    ck_ (v x0 4 = PA_ ∨ v x0 4 = PB_) (
    bd_ (fX5_allLines (v x0 4) v) fun q7 =>
    some (q7.1, q7.2)))
  else (
  if x1 = 2 then (
    bd_ (fX7_renames (x0 + 139) v) fun q10 =>
    if q10.1 = 0 then (
      some (0, q10.2))
    else (
      some (1, q10.2)))
  else (
  if x1 = 3 then (
    bd_ (fX7_allBegun (x0 + 139) v) fun q14 =>
    some (q14.1, q14.2))
  else (
  if x1 = 4 then (
    bd_ (fX11_knownPlan x0 v) fun q16 =>
    bd_ (fX4_added q16.1 1 q16.2) fun q18 =>
    some (q18.1, q18.2))
  else (
  if x1 = 5 then (
    bd_ (fX11_knownPlan x0 v) fun q20 =>
    bd_ (fX4_added q20.1 2 q20.2) fun q22 =>
    some (q22.1, q22.2))
  else (
  if x1 = 6 then (
    bd_ (fX11_knownPlan x0 v) fun q24 =>
    bd_ (fX4_added q24.1 3 q24.2) fun q26 =>
    some (q26.1, q26.2))
  else (
  if x1 = 7 then (
    bd_ (fX11_knownPlan x0 v) fun q28 =>
    bd_ (fX4_added q28.1 4 q28.2) fun q30 =>
    some (q30.1, q30.2))
  else (
  if x1 = 8 then (
    some (v x0 1, v))
  else (
  if x1 = 9 then (
    some (v (x0 + 141) 4, v))
  else (
  if x1 = 10 then (
    bd_ (fX11_knownPlan x0 v) fun q35 =>
    bd_ (fX4_added q35.1 5 q35.2) fun q37 =>
    some (q37.1, q37.2))
  else (
  if x1 = 11 then (
    bd_ (fX0_heldSlots (x0 + 141) v) fun q40 =>
    some (q40.1, q40.2))
  else (
  some ((-1), v)))))))))))))
theorem cX11_count_ok (l : Launch) {E : En_} {sz : Int} (hC : Cl_ E.2.2.2.2.2 sz) (hG : Pg_ E.2.2.2.2.2) {x0 x1 : Int} {v : V_} {out : Int × V_} (T0 : (E.2.2.2.2.2 x0 ∧ ty_ x0 = 11 ∧ ln_ x0 = 0)) (h : fX11_count x0 x1 v = some out) : Met l yX11_count [.code yX11_count cX11_count 2 (some FieldType.int)] (rm_ 6 143) (Pc_ E sz v [(2, x0), (0, x1)]) (Qc_ E sz 0 out.1 out.2) 0 0 (fun q => E.1 < q) := by
  refine met_G0 RX11 (by decide +kernel) rfl (Nat.le_of_ble_eq_true rfl) ?_
  intro p e s m args below meth c C hr hlk
  rw [fX11_count] at h
  refine g_iload_n C (f := 1) dX11_count_0 1 rfl ?_
  by_cases c1 : x1 = 0
  · replace h := if_t h c1
    refine g_tin C 64 dX11_count_1 0 c1 (by decide) (by decide) rfl rfl ?_
    refine g_aload_n C (f := 0) dX11_count_64 0 rfl ?_
    obtain ⟨c2, h⟩ := ck_e h
    refine g_getf C (k := 4) (kd := 2) okX11 (by decide) kf_RX11_27 dX11_count_65 (rg_ hC T0.1) T0.2.1 rfl ?_
    have F3 := pgF_ hG c2
    refine g_getf C (k := 0) (kd := 0) okX5 (by decide) kf_RX11_329 dX11_count_68 (rg_ hC F3.1) F3.2.1 rfl ?_
    cases h
    exact g_iret C dX11_count_71 hr hlk
  replace h := if_f h c1
  by_cases c4 : x1 = 1
  · replace h := if_t h c4
    refine g_tin C 72 dX11_count_1 1 c4 (by decide) (by decide) rfl rfl ?_
    refine g_aload_n C (f := 0) dX11_count_72 0 rfl ?_
    obtain ⟨c5, h⟩ := ck_e h
    refine g_getf C (k := 4) (kd := 2) okX11 (by decide) kf_RX11_27 dX11_count_73 (rg_ hC T0.1) T0.2.1 rfl ?_
    have F6 := pgF_ hG c5
    obtain ⟨q7, eq7, h⟩ := bd_e h
    refine g_cV C [] (cX5_allLines_ok l hC F6 eq7) okX5 F6.2.1 (rg_ hC F6.1) km_RX11_326 cv_X5_allLines rfl (by decide) rfl rfl (Nat.le_of_ble_eq_true rfl) dX11_count_76 ?_
    cases h
    exact g_iret C dX11_count_79 hr hlk
  replace h := if_f h c4
  by_cases c8 : x1 = 2
  · replace h := if_t h c8
    refine g_tin C 80 dX11_count_1 2 c8 (by decide) (by decide) rfl rfl ?_
    refine g_aload_n C (f := 0) dX11_count_80 0 rfl ?_
    have F9 := fX11_6 hC T0.1 T0.2.1
    refine g_getR C (k := 6) (o := 139) okX11 (by decide) kf_RX11_37 dX11_count_81 hC T0.1 T0.2.1 rfl rfl ?_
    obtain ⟨q10, eq10, h⟩ := bd_e h
    refine g_cV C [] (cX7_renames_ok l hC F9 eq10) okX7 F9.2.1 (rg_ hC F9.1) km_RX11_208 cv_X7_renames rfl (by decide) rfl rfl (Nat.le_of_ble_eq_true rfl) dX11_count_84 ?_
    refine g_if_eq C 94 dX11_count_87 rfl (fun c11 => ?_) (fun c11 => ?_)
    · replace h := if_t h c11
      refine g_iconst C (n := 0) dX11_count_94 (by decide) ?_
      cases h
      exact g_iret C dX11_count_95 hr hlk
    · replace h := if_f h c11
      refine g_iconst C (n := 1) dX11_count_90 (by decide) ?_
      refine g_goto C 95 dX11_count_91 rfl ?_
      cases h
      exact g_iret C dX11_count_95 hr hlk
  replace h := if_f h c8
  by_cases c12 : x1 = 3
  · replace h := if_t h c12
    refine g_tin C 96 dX11_count_1 3 c12 (by decide) (by decide) rfl rfl ?_
    refine g_aload_n C (f := 0) dX11_count_96 0 rfl ?_
    have F13 := fX11_6 hC T0.1 T0.2.1
    refine g_getR C (k := 6) (o := 139) okX11 (by decide) kf_RX11_37 dX11_count_97 hC T0.1 T0.2.1 rfl rfl ?_
    obtain ⟨q14, eq14, h⟩ := bd_e h
    refine g_cV C [] (cX7_allBegun_ok l hC F13 eq14) okX7 F13.2.1 (rg_ hC F13.1) km_RX11_202 cv_X7_allBegun rfl (by decide) rfl rfl (Nat.le_of_ble_eq_true rfl) dX11_count_100 ?_
    cases h
    exact g_iret C dX11_count_103 hr hlk
  replace h := if_f h c12
  by_cases c15 : x1 = 4
  · replace h := if_t h c15
    refine g_tin C 104 dX11_count_1 4 c15 (by decide) (by decide) rfl rfl ?_
    refine g_aload_n C (f := 0) dX11_count_104 0 rfl ?_
    obtain ⟨q16, eq16, h⟩ := bd_e h
    refine g_cV C [] (cX11_knownPlan_ok l hC hG T0 eq16) okX11 T0.2.1 (rg_ hC T0.1) km_RX11_145 cv_X11_knownPlan rfl (by decide) rfl rfl (Nat.le_of_ble_eq_true rfl) dX11_count_105 ?_
    have F17 := rX11_knownPlan_ok hC hG T0 eq16
    refine g_iconst C (n := 1) dX11_count_108 (by decide) ?_
    obtain ⟨q18, eq18, h⟩ := bd_e h
    refine g_cV C [(0, 1)] (cX4_added_ok l hC F17 eq18) okX4 F17.2.1 (rg_ hC F17.1) km_RX11_335 cv_X4_added rfl (by decide) rfl rfl (Nat.le_of_ble_eq_true rfl) dX11_count_109 ?_
    cases h
    exact g_iret C dX11_count_112 hr hlk
  replace h := if_f h c15
  by_cases c19 : x1 = 5
  · replace h := if_t h c19
    refine g_tin C 113 dX11_count_1 5 c19 (by decide) (by decide) rfl rfl ?_
    refine g_aload_n C (f := 0) dX11_count_113 0 rfl ?_
    obtain ⟨q20, eq20, h⟩ := bd_e h
    refine g_cV C [] (cX11_knownPlan_ok l hC hG T0 eq20) okX11 T0.2.1 (rg_ hC T0.1) km_RX11_145 cv_X11_knownPlan rfl (by decide) rfl rfl (Nat.le_of_ble_eq_true rfl) dX11_count_114 ?_
    have F21 := rX11_knownPlan_ok hC hG T0 eq20
    refine g_iconst C (n := 2) dX11_count_117 (by decide) ?_
    obtain ⟨q22, eq22, h⟩ := bd_e h
    refine g_cV C [(0, 2)] (cX4_added_ok l hC F21 eq22) okX4 F21.2.1 (rg_ hC F21.1) km_RX11_335 cv_X4_added rfl (by decide) rfl rfl (Nat.le_of_ble_eq_true rfl) dX11_count_118 ?_
    cases h
    exact g_iret C dX11_count_121 hr hlk
  replace h := if_f h c19
  by_cases c23 : x1 = 6
  · replace h := if_t h c23
    refine g_tin C 122 dX11_count_1 6 c23 (by decide) (by decide) rfl rfl ?_
    refine g_aload_n C (f := 0) dX11_count_122 0 rfl ?_
    obtain ⟨q24, eq24, h⟩ := bd_e h
    refine g_cV C [] (cX11_knownPlan_ok l hC hG T0 eq24) okX11 T0.2.1 (rg_ hC T0.1) km_RX11_145 cv_X11_knownPlan rfl (by decide) rfl rfl (Nat.le_of_ble_eq_true rfl) dX11_count_123 ?_
    have F25 := rX11_knownPlan_ok hC hG T0 eq24
    refine g_iconst C (n := 3) dX11_count_126 (by decide) ?_
    obtain ⟨q26, eq26, h⟩ := bd_e h
    refine g_cV C [(0, 3)] (cX4_added_ok l hC F25 eq26) okX4 F25.2.1 (rg_ hC F25.1) km_RX11_335 cv_X4_added rfl (by decide) rfl rfl (Nat.le_of_ble_eq_true rfl) dX11_count_127 ?_
    cases h
    exact g_iret C dX11_count_130 hr hlk
  replace h := if_f h c23
  by_cases c27 : x1 = 7
  · replace h := if_t h c27
    refine g_tin C 131 dX11_count_1 7 c27 (by decide) (by decide) rfl rfl ?_
    refine g_aload_n C (f := 0) dX11_count_131 0 rfl ?_
    obtain ⟨q28, eq28, h⟩ := bd_e h
    refine g_cV C [] (cX11_knownPlan_ok l hC hG T0 eq28) okX11 T0.2.1 (rg_ hC T0.1) km_RX11_145 cv_X11_knownPlan rfl (by decide) rfl rfl (Nat.le_of_ble_eq_true rfl) dX11_count_132 ?_
    have F29 := rX11_knownPlan_ok hC hG T0 eq28
    refine g_iconst C (n := 4) dX11_count_135 (by decide) ?_
    obtain ⟨q30, eq30, h⟩ := bd_e h
    refine g_cV C [(0, 4)] (cX4_added_ok l hC F29 eq30) okX4 F29.2.1 (rg_ hC F29.1) km_RX11_335 cv_X4_added rfl (by decide) rfl rfl (Nat.le_of_ble_eq_true rfl) dX11_count_136 ?_
    cases h
    exact g_iret C dX11_count_139 hr hlk
  replace h := if_f h c27
  by_cases c31 : x1 = 8
  · replace h := if_t h c31
    refine g_tin C 140 dX11_count_1 8 c31 (by decide) (by decide) rfl rfl ?_
    refine g_aload_n C (f := 0) dX11_count_140 0 rfl ?_
    refine g_getf C (k := 1) (kd := 0) okX11 (by decide) kf_RX11_69 dX11_count_141 (rg_ hC T0.1) T0.2.1 rfl ?_
    cases h
    exact g_iret C dX11_count_144 hr hlk
  replace h := if_f h c31
  by_cases c32 : x1 = 9
  · replace h := if_t h c32
    refine g_tin C 145 dX11_count_1 9 c32 (by decide) (by decide) rfl rfl ?_
    refine g_aload_n C (f := 0) dX11_count_145 0 rfl ?_
    have F33 := fX11_7 hC T0.1 T0.2.1
    refine g_getR C (k := 7) (o := 141) okX11 (by decide) kf_RX11_44 dX11_count_146 hC T0.1 T0.2.1 rfl rfl ?_
    refine g_getf C (k := 4) (kd := 0) okX0 (by decide) kf_RX11_358 dX11_count_149 (rg_ hC F33.1) F33.2.1 rfl ?_
    cases h
    exact g_iret C dX11_count_152 hr hlk
  replace h := if_f h c32
  by_cases c34 : x1 = 10
  · replace h := if_t h c34
    refine g_tin C 153 dX11_count_1 10 c34 (by decide) (by decide) rfl rfl ?_
    refine g_aload_n C (f := 0) dX11_count_153 0 rfl ?_
    obtain ⟨q35, eq35, h⟩ := bd_e h
    refine g_cV C [] (cX11_knownPlan_ok l hC hG T0 eq35) okX11 T0.2.1 (rg_ hC T0.1) km_RX11_145 cv_X11_knownPlan rfl (by decide) rfl rfl (Nat.le_of_ble_eq_true rfl) dX11_count_154 ?_
    have F36 := rX11_knownPlan_ok hC hG T0 eq35
    refine g_iconst C (n := 5) dX11_count_157 (by decide) ?_
    obtain ⟨q37, eq37, h⟩ := bd_e h
    refine g_cV C [(0, 5)] (cX4_added_ok l hC F36 eq37) okX4 F36.2.1 (rg_ hC F36.1) km_RX11_335 cv_X4_added rfl (by decide) rfl rfl (Nat.le_of_ble_eq_true rfl) dX11_count_158 ?_
    cases h
    exact g_iret C dX11_count_161 hr hlk
  replace h := if_f h c34
  by_cases c38 : x1 = 11
  · replace h := if_t h c38
    refine g_tin C 162 dX11_count_1 11 c38 (by decide) (by decide) rfl rfl ?_
    refine g_aload_n C (f := 0) dX11_count_162 0 rfl ?_
    have F39 := fX11_7 hC T0.1 T0.2.1
    refine g_getR C (k := 7) (o := 141) okX11 (by decide) kf_RX11_44 dX11_count_163 hC T0.1 T0.2.1 rfl rfl ?_
    obtain ⟨q40, eq40, h⟩ := bd_e h
    refine g_cV C [] (cX0_heldSlots_ok l hC F39 eq40) okX0 F39.2.1 (rg_ hC F39.1) km_RX11_361 cv_X0_heldSlots rfl (by decide) rfl rfl (Nat.le_of_ble_eq_true rfl) dX11_count_166 ?_
    cases h
    exact g_iret C dX11_count_169 hr hlk
  replace h := if_f h c38
  refine g_tdef C (x := x1) 170 dX11_count_1 (by intro a ha h1 h2; exact absurd h2 (by omega)) rfl ?_
  refine g_iconst C (n := (-1)) dX11_count_170 (by decide) ?_
  cases h
  exact g_iret C dX11_count_171 hr hlk
theorem dX11_fast_0 : decode cX11_fast 0 = .ok (.iload_n 1, 1) := by decide +kernel
theorem dX11_fast_1 : decode cX11_fast 1 = .ok (.tableswitch 75 0 4 #[35, 43, 51, 59, 67], 35) := by decide +kernel
theorem dX11_fast_36 : decode cX11_fast 36 = .ok (.aload_n 0, 1) := by decide +kernel
theorem dX11_fast_37 : decode cX11_fast 37 = .ok (.invokevirtual 313, 3) := by decide +kernel
theorem dX11_fast_40 : decode cX11_fast 40 = .ok (.getfield 182, 3) := by decide +kernel
theorem dX11_fast_43 : decode cX11_fast 43 = .ok (.ireturn, 1) := by decide +kernel
theorem dX11_fast_44 : decode cX11_fast 44 = .ok (.aload_n 0, 1) := by decide +kernel
theorem dX11_fast_45 : decode cX11_fast 45 = .ok (.invokevirtual 313, 3) := by decide +kernel
theorem dX11_fast_48 : decode cX11_fast 48 = .ok (.getfield 307, 3) := by decide +kernel
theorem dX11_fast_51 : decode cX11_fast 51 = .ok (.ireturn, 1) := by decide +kernel
theorem dX11_fast_52 : decode cX11_fast 52 = .ok (.aload_n 0, 1) := by decide +kernel
theorem dX11_fast_53 : decode cX11_fast 53 = .ok (.invokevirtual 313, 3) := by decide +kernel
theorem dX11_fast_56 : decode cX11_fast 56 = .ok (.getfield 310, 3) := by decide +kernel
theorem dX11_fast_59 : decode cX11_fast 59 = .ok (.ireturn, 1) := by decide +kernel
theorem dX11_fast_60 : decode cX11_fast 60 = .ok (.aload_n 0, 1) := by decide +kernel
theorem dX11_fast_61 : decode cX11_fast 61 = .ok (.invokevirtual 313, 3) := by decide +kernel
theorem dX11_fast_64 : decode cX11_fast 64 = .ok (.getfield 316, 3) := by decide +kernel
theorem dX11_fast_67 : decode cX11_fast 67 = .ok (.ireturn, 1) := by decide +kernel
theorem dX11_fast_68 : decode cX11_fast 68 = .ok (.aload_n 0, 1) := by decide +kernel
theorem dX11_fast_69 : decode cX11_fast 69 = .ok (.invokevirtual 313, 3) := by decide +kernel
theorem dX11_fast_72 : decode cX11_fast 72 = .ok (.getfield 319, 3) := by decide +kernel
theorem dX11_fast_75 : decode cX11_fast 75 = .ok (.ireturn, 1) := by decide +kernel
theorem dX11_fast_76 : decode cX11_fast 76 = .ok (.iconst (-1), 1) := by decide +kernel
theorem dX11_fast_77 : decode cX11_fast 77 = .ok (.ireturn, 1) := by decide +kernel
def fX11_fast (x0 x1 : Int) (v : V_) : Option (Int × V_) :=
  if x1 = 0 then (
    bd_ (fX11_knownFast x0 v) fun q2 =>
    some (q2.2 q2.1 4, q2.2))
  else (
  if x1 = 1 then (
    bd_ (fX11_knownFast x0 v) fun q5 =>
    some (q5.2 q5.1 5, q5.2))
  else (
  if x1 = 2 then (
    bd_ (fX11_knownFast x0 v) fun q8 =>
    some (q8.2 q8.1 6, q8.2))
  else (
  if x1 = 3 then (
    bd_ (fX11_knownFast x0 v) fun q11 =>
    some (q11.2 q11.1 7, q11.2))
  else (
  if x1 = 4 then (
    bd_ (fX11_knownFast x0 v) fun q14 =>
    some (q14.2 q14.1 8, q14.2))
  else (
  some ((-1), v))))))
theorem cX11_fast_ok (l : Launch) {E : En_} {sz : Int} (hC : Cl_ E.2.2.2.2.2 sz) (hG : Pg_ E.2.2.2.2.2) {x0 x1 : Int} {v : V_} {out : Int × V_} (T0 : (E.2.2.2.2.2 x0 ∧ ty_ x0 = 11 ∧ ln_ x0 = 0)) (h : fX11_fast x0 x1 v = some out) : Met l yX11_fast [.code yX11_fast cX11_fast 2 (some FieldType.int)] (rm_ 7 163) (Pc_ E sz v [(2, x0), (0, x1)]) (Qc_ E sz 0 out.1 out.2) 0 0 (fun q => E.1 < q) := by
  refine met_G0 RX11 (by decide +kernel) rfl (Nat.le_of_ble_eq_true rfl) ?_
  intro p e s m args below meth c C hr hlk
  rw [fX11_fast] at h
  refine g_iload_n C (f := 1) dX11_fast_0 1 rfl ?_
  by_cases c1 : x1 = 0
  · replace h := if_t h c1
    refine g_tin C 36 dX11_fast_1 0 c1 (by decide) (by decide) rfl rfl ?_
    refine g_aload_n C (f := 0) dX11_fast_36 0 rfl ?_
    obtain ⟨q2, eq2, h⟩ := bd_e h
    refine g_cV C [] (cX11_knownFast_ok l hC hG T0 eq2) okX11 T0.2.1 (rg_ hC T0.1) km_RX11_313 cv_X11_knownFast rfl (by decide) rfl rfl (Nat.le_of_ble_eq_true rfl) dX11_fast_37 ?_
    have F3 := rX11_knownFast_ok hC hG T0 eq2
    refine g_getf C (k := 4) (kd := 0) okX6 (by decide) kf_RX11_182 dX11_fast_40 (rg_ hC F3.1) F3.2.1 rfl ?_
    cases h
    exact g_iret C dX11_fast_43 hr hlk
  replace h := if_f h c1
  by_cases c4 : x1 = 1
  · replace h := if_t h c4
    refine g_tin C 44 dX11_fast_1 1 c4 (by decide) (by decide) rfl rfl ?_
    refine g_aload_n C (f := 0) dX11_fast_44 0 rfl ?_
    obtain ⟨q5, eq5, h⟩ := bd_e h
    refine g_cV C [] (cX11_knownFast_ok l hC hG T0 eq5) okX11 T0.2.1 (rg_ hC T0.1) km_RX11_313 cv_X11_knownFast rfl (by decide) rfl rfl (Nat.le_of_ble_eq_true rfl) dX11_fast_45 ?_
    have F6 := rX11_knownFast_ok hC hG T0 eq5
    refine g_getf C (k := 5) (kd := 0) okX6 (by decide) kf_RX11_307 dX11_fast_48 (rg_ hC F6.1) F6.2.1 rfl ?_
    cases h
    exact g_iret C dX11_fast_51 hr hlk
  replace h := if_f h c4
  by_cases c7 : x1 = 2
  · replace h := if_t h c7
    refine g_tin C 52 dX11_fast_1 2 c7 (by decide) (by decide) rfl rfl ?_
    refine g_aload_n C (f := 0) dX11_fast_52 0 rfl ?_
    obtain ⟨q8, eq8, h⟩ := bd_e h
    refine g_cV C [] (cX11_knownFast_ok l hC hG T0 eq8) okX11 T0.2.1 (rg_ hC T0.1) km_RX11_313 cv_X11_knownFast rfl (by decide) rfl rfl (Nat.le_of_ble_eq_true rfl) dX11_fast_53 ?_
    have F9 := rX11_knownFast_ok hC hG T0 eq8
    refine g_getf C (k := 6) (kd := 0) okX6 (by decide) kf_RX11_310 dX11_fast_56 (rg_ hC F9.1) F9.2.1 rfl ?_
    cases h
    exact g_iret C dX11_fast_59 hr hlk
  replace h := if_f h c7
  by_cases c10 : x1 = 3
  · replace h := if_t h c10
    refine g_tin C 60 dX11_fast_1 3 c10 (by decide) (by decide) rfl rfl ?_
    refine g_aload_n C (f := 0) dX11_fast_60 0 rfl ?_
    obtain ⟨q11, eq11, h⟩ := bd_e h
    refine g_cV C [] (cX11_knownFast_ok l hC hG T0 eq11) okX11 T0.2.1 (rg_ hC T0.1) km_RX11_313 cv_X11_knownFast rfl (by decide) rfl rfl (Nat.le_of_ble_eq_true rfl) dX11_fast_61 ?_
    have F12 := rX11_knownFast_ok hC hG T0 eq11
    refine g_getf C (k := 7) (kd := 0) okX6 (by decide) kf_RX11_316 dX11_fast_64 (rg_ hC F12.1) F12.2.1 rfl ?_
    cases h
    exact g_iret C dX11_fast_67 hr hlk
  replace h := if_f h c10
  by_cases c13 : x1 = 4
  · replace h := if_t h c13
    refine g_tin C 68 dX11_fast_1 4 c13 (by decide) (by decide) rfl rfl ?_
    refine g_aload_n C (f := 0) dX11_fast_68 0 rfl ?_
    obtain ⟨q14, eq14, h⟩ := bd_e h
    refine g_cV C [] (cX11_knownFast_ok l hC hG T0 eq14) okX11 T0.2.1 (rg_ hC T0.1) km_RX11_313 cv_X11_knownFast rfl (by decide) rfl rfl (Nat.le_of_ble_eq_true rfl) dX11_fast_69 ?_
    have F15 := rX11_knownFast_ok hC hG T0 eq14
    refine g_getf C (k := 8) (kd := 0) okX6 (by decide) kf_RX11_319 dX11_fast_72 (rg_ hC F15.1) F15.2.1 rfl ?_
    cases h
    exact g_iret C dX11_fast_75 hr hlk
  replace h := if_f h c13
  refine g_tdef C (x := x1) 76 dX11_fast_1 (by intro a ha h1 h2; exact absurd h2 (by omega)) rfl ?_
  refine g_iconst C (n := (-1)) dX11_fast_76 (by decide) ?_
  cases h
  exact g_iret C dX11_fast_77 hr hlk
theorem dX11_feed_0 : decode cX11_feed 0 = .ok (.aload_n 0, 1) := by decide +kernel
theorem dX11_feed_1 : decode cX11_feed 1 = .ok (.getfield 69, 3) := by decide +kernel
theorem dX11_feed_4 : decode cX11_feed 4 = .ok (.bipush 20, 2) := by decide +kernel
theorem dX11_feed_6 : decode cX11_feed 6 = .ok (.iadd, 1) := by decide +kernel
theorem dX11_feed_7 : decode cX11_feed 7 = .ok (.sipush 2000, 3) := by decide +kernel
theorem dX11_feed_10 : decode cX11_feed 10 = .ok (.if_icmp .le 5, 3) := by decide +kernel
theorem dX11_feed_13 : decode cX11_feed 13 = .ok (.iconst (-1), 1) := by decide +kernel
theorem dX11_feed_14 : decode cX11_feed 14 = .ok (.ireturn, 1) := by decide +kernel
theorem dX11_feed_15 : decode cX11_feed 15 = .ok (.aload_n 0, 1) := by decide +kernel
theorem dX11_feed_16 : decode cX11_feed 16 = .ok (.iload_n 1, 1) := by decide +kernel
theorem dX11_feed_17 : decode cX11_feed 17 = .ok (.invokevirtual 72, 3) := by decide +kernel
theorem dX11_feed_20 : decode cX11_feed 20 = .ok (.aload_n 0, 1) := by decide +kernel
theorem dX11_feed_21 : decode cX11_feed 21 = .ok (.iload_n 2, 1) := by decide +kernel
theorem dX11_feed_22 : decode cX11_feed 22 = .ok (.invokevirtual 72, 3) := by decide +kernel
theorem dX11_feed_25 : decode cX11_feed 25 = .ok (.aload_n 0, 1) := by decide +kernel
theorem dX11_feed_26 : decode cX11_feed 26 = .ok (.iload_n 3, 1) := by decide +kernel
theorem dX11_feed_27 : decode cX11_feed 27 = .ok (.invokevirtual 72, 3) := by decide +kernel
theorem dX11_feed_30 : decode cX11_feed 30 = .ok (.aload_n 0, 1) := by decide +kernel
theorem dX11_feed_31 : decode cX11_feed 31 = .ok (.iload 4, 2) := by decide +kernel
theorem dX11_feed_33 : decode cX11_feed 33 = .ok (.invokevirtual 72, 3) := by decide +kernel
theorem dX11_feed_36 : decode cX11_feed 36 = .ok (.aload_n 0, 1) := by decide +kernel
theorem dX11_feed_37 : decode cX11_feed 37 = .ok (.iload 5, 2) := by decide +kernel
theorem dX11_feed_39 : decode cX11_feed 39 = .ok (.invokevirtual 72, 3) := by decide +kernel
theorem dX11_feed_42 : decode cX11_feed 42 = .ok (.aload_n 0, 1) := by decide +kernel
theorem dX11_feed_43 : decode cX11_feed 43 = .ok (.getfield 69, 3) := by decide +kernel
theorem dX11_feed_46 : decode cX11_feed 46 = .ok (.ireturn, 1) := by decide +kernel
def fX11_feed (x0 x1 x2 x3 x4 x5 : Int) (v : V_) : Option (Int × V_) :=
  if (wr_ ((v x0 1) + 20)) ≤ 2000 then (
    bd_ (fX11_append x0 x1 v) fun q2 =>
    bd_ (fX11_append x0 x2 q2.2) fun q3 =>
    bd_ (fX11_append x0 x3 q3.2) fun q4 =>
    bd_ (fX11_append x0 x4 q4.2) fun q5 =>
    bd_ (fX11_append x0 x5 q5.2) fun q6 =>
    some (q6.2 x0 1, q6.2))
  else (
    some ((-1), v))
theorem cX11_feed_ok (l : Launch) {E : En_} {sz : Int} (hC : Cl_ E.2.2.2.2.2 sz) (hG : Pg_ E.2.2.2.2.2) {x0 x1 x2 x3 x4 x5 : Int} {v : V_} {out : Int × V_} (T0 : (E.2.2.2.2.2 x0 ∧ ty_ x0 = 11 ∧ ln_ x0 = 0)) (h : fX11_feed x0 x1 x2 x3 x4 x5 v = some out) : Met l yX11_feed [.code yX11_feed cX11_feed 6 (some FieldType.int)] (rm_ 1 22) (Pc_ E sz v [(2, x0), (0, x1), (0, x2), (0, x3), (0, x4), (0, x5)]) (Qc_ E sz 0 out.1 out.2) 0 0 (fun q => E.1 < q) := by
  refine met_G0 RX11 (by decide +kernel) rfl (Nat.le_of_ble_eq_true rfl) ?_
  intro p e s m args below meth c C hr hlk
  rw [fX11_feed] at h
  refine g_aload_n C (f := 0) dX11_feed_0 0 rfl ?_
  refine g_getf C (k := 1) (kd := 0) okX11 (by decide) kf_RX11_69 dX11_feed_1 (rg_ hC T0.1) T0.2.1 rfl ?_
  refine g_bipush C (n := 20) dX11_feed_4 (by decide) ?_
  refine g_iadd C dX11_feed_6 ?_
  refine g_sipush C (n := 2000) dX11_feed_7 (by decide) ?_
  refine g_icmp_le C 15 dX11_feed_10 rfl (fun c1 => ?_) (fun c1 => ?_)
  · replace h := if_t h c1
    refine g_aload_n C (f := 0) dX11_feed_15 0 rfl ?_
    refine g_iload_n C (f := 1) dX11_feed_16 1 rfl ?_
    obtain ⟨q2, eq2, h⟩ := bd_e h
    refine g_cV C [(0, x1)] (cX11_append_ok l hC hG T0 eq2) okX11 T0.2.1 (rg_ hC T0.1) km_RX11_72 cv_X11_append rfl (by decide) rfl rfl (Nat.le_of_ble_eq_true rfl) dX11_feed_17 ?_
    refine g_aload_n C (f := 0) dX11_feed_20 0 rfl ?_
    refine g_iload_n C (f := 2) dX11_feed_21 2 rfl ?_
    obtain ⟨q3, eq3, h⟩ := bd_e h
    refine g_cV C [(0, x2)] (cX11_append_ok l hC hG T0 eq3) okX11 T0.2.1 (rg_ hC T0.1) km_RX11_72 cv_X11_append rfl (by decide) rfl rfl (Nat.le_of_ble_eq_true rfl) dX11_feed_22 ?_
    refine g_aload_n C (f := 0) dX11_feed_25 0 rfl ?_
    refine g_iload_n C (f := 3) dX11_feed_26 3 rfl ?_
    obtain ⟨q4, eq4, h⟩ := bd_e h
    refine g_cV C [(0, x3)] (cX11_append_ok l hC hG T0 eq4) okX11 T0.2.1 (rg_ hC T0.1) km_RX11_72 cv_X11_append rfl (by decide) rfl rfl (Nat.le_of_ble_eq_true rfl) dX11_feed_27 ?_
    refine g_aload_n C (f := 0) dX11_feed_30 0 rfl ?_
    refine g_iload C (i := 4) dX11_feed_31 4 rfl ?_
    obtain ⟨q5, eq5, h⟩ := bd_e h
    refine g_cV C [(0, x4)] (cX11_append_ok l hC hG T0 eq5) okX11 T0.2.1 (rg_ hC T0.1) km_RX11_72 cv_X11_append rfl (by decide) rfl rfl (Nat.le_of_ble_eq_true rfl) dX11_feed_33 ?_
    refine g_aload_n C (f := 0) dX11_feed_36 0 rfl ?_
    refine g_iload C (i := 5) dX11_feed_37 5 rfl ?_
    obtain ⟨q6, eq6, h⟩ := bd_e h
    refine g_cV C [(0, x5)] (cX11_append_ok l hC hG T0 eq6) okX11 T0.2.1 (rg_ hC T0.1) km_RX11_72 cv_X11_append rfl (by decide) rfl rfl (Nat.le_of_ble_eq_true rfl) dX11_feed_39 ?_
    refine g_aload_n C (f := 0) dX11_feed_42 0 rfl ?_
    refine g_getf C (k := 1) (kd := 0) okX11 (by decide) kf_RX11_69 dX11_feed_43 (rg_ hC T0.1) T0.2.1 rfl ?_
    cases h
    exact g_iret C dX11_feed_46 hr hlk
  · replace h := if_f h c1
    refine g_iconst C (n := (-1)) dX11_feed_13 (by decide) ?_
    cases h
    exact g_iret C dX11_feed_14 hr hlk
theorem dX11_isWay_0 : decode cX11_isWay 0 = .ok (.iload_n 0, 1) := by decide +kernel
theorem dX11_isWay_1 : decode cX11_isWay 1 = .ok (.ifCond .lt 12, 3) := by decide +kernel
theorem dX11_isWay_4 : decode cX11_isWay 4 = .ok (.iload_n 0, 1) := by decide +kernel
theorem dX11_isWay_5 : decode cX11_isWay 5 = .ok (.iconst 2, 1) := by decide +kernel
theorem dX11_isWay_6 : decode cX11_isWay 6 = .ok (.if_icmp .ge 7, 3) := by decide +kernel
theorem dX11_isWay_9 : decode cX11_isWay 9 = .ok (.iconst 1, 1) := by decide +kernel
theorem dX11_isWay_10 : decode cX11_isWay 10 = .ok (.goto 4, 3) := by decide +kernel
theorem dX11_isWay_13 : decode cX11_isWay 13 = .ok (.iconst 0, 1) := by decide +kernel
theorem dX11_isWay_14 : decode cX11_isWay 14 = .ok (.ireturn, 1) := by decide +kernel
def fX11_isWay (x0 : Int) (v : V_) : Option (Int × V_) :=
  if x0 < 0 then (
    some (0, v))
  else (
    if 2 ≤ x0 then (
      some (0, v))
    else (
      some (1, v)))
theorem cX11_isWay_ok (l : Launch) {E : En_} {sz : Int} (hC : Cl_ E.2.2.2.2.2 sz) {x0 : Int} {v : V_} {out : Int × V_} (h : fX11_isWay x0 v = some out) : Met l yX11_isWay [.code yX11_isWay cX11_isWay 1 (some FieldType.boolean)] (rm_ 0 0) (Pc_ E sz v [(0, x0)]) (Qc_ E sz 0 out.1 out.2) 0 0 (fun q => E.1 < q) := by
  refine met_G0 RX11 (by decide +kernel) rfl (Nat.le_of_ble_eq_true rfl) ?_
  intro p e s m args below meth c C hr hlk
  rw [fX11_isWay] at h
  refine g_iload_n C (f := 0) dX11_isWay_0 0 rfl ?_
  refine g_if_lt C 13 dX11_isWay_1 rfl (fun c1 => ?_) (fun c1 => ?_)
  · replace h := if_t h c1
    refine g_iconst C (n := 0) dX11_isWay_13 (by decide) ?_
    cases h
    exact g_zret C dX11_isWay_14 hr hlk (Or.inl rfl)
  · replace h := if_f h c1
    refine g_iload_n C (f := 0) dX11_isWay_4 0 rfl ?_
    refine g_iconst C (n := 2) dX11_isWay_5 (by decide) ?_
    refine g_icmp_ge C 13 dX11_isWay_6 rfl (fun c2 => ?_) (fun c2 => ?_)
    · replace h := if_t h c2
      refine g_iconst C (n := 0) dX11_isWay_13 (by decide) ?_
      cases h
      exact g_zret C dX11_isWay_14 hr hlk (Or.inl rfl)
    · replace h := if_f h c2
      refine g_iconst C (n := 1) dX11_isWay_9 (by decide) ?_
      refine g_goto C 14 dX11_isWay_10 rfl ?_
      cases h
      exact g_zret C dX11_isWay_14 hr hlk (Or.inr rfl)
theorem dX11_gone_0 : decode cX11_gone 0 = .ok (.aload_n 0, 1) := by decide +kernel
theorem dX11_gone_1 : decode cX11_gone 1 = .ok (.getfield 27, 3) := by decide +kernel
theorem dX11_gone_4 : decode cX11_gone 4 = .ok (.iload_n 1, 1) := by decide +kernel
theorem dX11_gone_5 : decode cX11_gone 5 = .ok (.invokevirtual 119, 3) := by decide +kernel
theorem dX11_gone_8 : decode cX11_gone 8 = .ok (.ifCond .eq 22, 3) := by decide +kernel
theorem dX11_gone_11 : decode cX11_gone 11 = .ok (.iload_n 2, 1) := by decide +kernel
theorem dX11_gone_12 : decode cX11_gone 12 = .ok (.invokestatic 158, 3) := by decide +kernel
theorem dX11_gone_15 : decode cX11_gone 15 = .ok (.ifCond .eq 15, 3) := by decide +kernel
theorem dX11_gone_18 : decode cX11_gone 18 = .ok (.aload_n 0, 1) := by decide +kernel
theorem dX11_gone_19 : decode cX11_gone 19 = .ok (.getfield 27, 3) := by decide +kernel
theorem dX11_gone_22 : decode cX11_gone 22 = .ok (.iload_n 1, 1) := by decide +kernel
theorem dX11_gone_23 : decode cX11_gone 23 = .ok (.iload_n 2, 1) := by decide +kernel
theorem dX11_gone_24 : decode cX11_gone 24 = .ok (.invokevirtual 138, 3) := by decide +kernel
theorem dX11_gone_27 : decode cX11_gone 27 = .ok (.ifCond .ge 5, 3) := by decide +kernel
theorem dX11_gone_30 : decode cX11_gone 30 = .ok (.iconst (-1), 1) := by decide +kernel
theorem dX11_gone_31 : decode cX11_gone 31 = .ok (.ireturn, 1) := by decide +kernel
theorem dX11_gone_32 : decode cX11_gone 32 = .ok (.aload_n 0, 1) := by decide +kernel
theorem dX11_gone_33 : decode cX11_gone 33 = .ok (.getfield 37, 3) := by decide +kernel
theorem dX11_gone_36 : decode cX11_gone 36 = .ok (.iload_n 1, 1) := by decide +kernel
theorem dX11_gone_37 : decode cX11_gone 37 = .ok (.iload_n 2, 1) := by decide +kernel
theorem dX11_gone_38 : decode cX11_gone 38 = .ok (.invokevirtual 161, 3) := by decide +kernel
theorem dX11_gone_41 : decode cX11_gone 41 = .ok (.ireturn, 1) := by decide +kernel
def fX11_gone (x0 x1 x2 : Int) (v : V_) : Option (Int × V_) :=
  ck_ (v x0 4 = PA_ ∨ v x0 4 = PB_) (
  bd_ (fX5_hasBlock (v x0 4) x1 v) fun q3 =>
  if q3.1 = 0 then (
    some ((-1), q3.2))
  else (
    bd_ (fX11_isWay x2 q3.2) fun q5 =>
    if q5.1 = 0 then (
      some ((-1), q5.2))
    else (
      ck_ (q5.2 x0 4 = PA_ ∨ q5.2 x0 4 = PB_) (
      bd_ (fX5_leadsTo (q5.2 x0 4) x1 x2 q5.2) fun q9 =>
      if 0 ≤ q9.1 then (
        bd_ (fX7_goneOf (x0 + 139) x1 x2 q9.2) fun q12 =>
        some (q12.1, q12.2))
      else (
        some ((-1), q9.2))))))
theorem cX11_gone_ok (l : Launch) {E : En_} {sz : Int} (hC : Cl_ E.2.2.2.2.2 sz) (hG : Pg_ E.2.2.2.2.2) {x0 x1 x2 : Int} {v : V_} {out : Int × V_} (T0 : (E.2.2.2.2.2 x0 ∧ ty_ x0 = 11 ∧ ln_ x0 = 0)) (h : fX11_gone x0 x1 x2 v = some out) : Met l yX11_gone [.code yX11_gone cX11_gone 3 (some FieldType.int)] (rm_ 1 22) (Pc_ E sz v [(2, x0), (0, x1), (0, x2)]) (Qc_ E sz 0 out.1 out.2) 0 0 (fun q => E.1 < q) := by
  refine met_G0 RX11 (by decide +kernel) rfl (Nat.le_of_ble_eq_true rfl) ?_
  intro p e s m args below meth c C hr hlk
  rw [fX11_gone] at h
  refine g_aload_n C (f := 0) dX11_gone_0 0 rfl ?_
  obtain ⟨c1, h⟩ := ck_e h
  refine g_getf C (k := 4) (kd := 2) okX11 (by decide) kf_RX11_27 dX11_gone_1 (rg_ hC T0.1) T0.2.1 rfl ?_
  have F2 := pgF_ hG c1
  refine g_iload_n C (f := 1) dX11_gone_4 1 rfl ?_
  obtain ⟨q3, eq3, h⟩ := bd_e h
  refine g_cV C [(0, x1)] (cX5_hasBlock_ok l hC F2 eq3) okX5 F2.2.1 (rg_ hC F2.1) km_RX11_119 cv_X5_hasBlock rfl (by decide) rfl rfl (Nat.le_of_ble_eq_true rfl) dX11_gone_5 ?_
  refine g_if_eq C 30 dX11_gone_8 rfl (fun c4 => ?_) (fun c4 => ?_)
  · replace h := if_t h c4
    refine g_iconst C (n := (-1)) dX11_gone_30 (by decide) ?_
    cases h
    exact g_iret C dX11_gone_31 hr hlk
  · replace h := if_f h c4
    refine g_iload_n C (f := 2) dX11_gone_11 2 rfl ?_
    obtain ⟨q5, eq5, h⟩ := bd_e h
    refine g_cS C [(0, x2)] (cX11_isWay_ok l hC eq5) km_RX11_158 cs_X11_isWay rfl (by decide) rfl rfl (Nat.le_of_ble_eq_true rfl) dX11_gone_12 ?_
    refine g_if_eq C 30 dX11_gone_15 rfl (fun c6 => ?_) (fun c6 => ?_)
    · replace h := if_t h c6
      refine g_iconst C (n := (-1)) dX11_gone_30 (by decide) ?_
      cases h
      exact g_iret C dX11_gone_31 hr hlk
    · replace h := if_f h c6
      refine g_aload_n C (f := 0) dX11_gone_18 0 rfl ?_
      obtain ⟨c7, h⟩ := ck_e h
      refine g_getf C (k := 4) (kd := 2) okX11 (by decide) kf_RX11_27 dX11_gone_19 (rg_ hC T0.1) T0.2.1 rfl ?_
      have F8 := pgF_ hG c7
      refine g_iload_n C (f := 1) dX11_gone_22 1 rfl ?_
      refine g_iload_n C (f := 2) dX11_gone_23 2 rfl ?_
      obtain ⟨q9, eq9, h⟩ := bd_e h
      refine g_cV C [(0, x1), (0, x2)] (cX5_leadsTo_ok l hC F8 eq9) okX5 F8.2.1 (rg_ hC F8.1) km_RX11_138 cv_X5_leadsTo rfl (by decide) rfl rfl (Nat.le_of_ble_eq_true rfl) dX11_gone_24 ?_
      refine g_if_ge C 32 dX11_gone_27 rfl (fun c10 => ?_) (fun c10 => ?_)
      · replace h := if_t h c10
        refine g_aload_n C (f := 0) dX11_gone_32 0 rfl ?_
        have F11 := fX11_6 hC T0.1 T0.2.1
        refine g_getR C (k := 6) (o := 139) okX11 (by decide) kf_RX11_37 dX11_gone_33 hC T0.1 T0.2.1 rfl rfl ?_
        refine g_iload_n C (f := 1) dX11_gone_36 1 rfl ?_
        refine g_iload_n C (f := 2) dX11_gone_37 2 rfl ?_
        obtain ⟨q12, eq12, h⟩ := bd_e h
        refine g_cV C [(0, x1), (0, x2)] (cX7_goneOf_ok l hC F11 eq12) okX7 F11.2.1 (rg_ hC F11.1) km_RX11_161 cv_X7_goneOf rfl (by decide) rfl rfl (Nat.le_of_ble_eq_true rfl) dX11_gone_38 ?_
        cases h
        exact g_iret C dX11_gone_41 hr hlk
      · replace h := if_f h c10
        refine g_iconst C (n := (-1)) dX11_gone_30 (by decide) ?_
        cases h
        exact g_iret C dX11_gone_31 hr hlk
theorem dX11_growth_0 : decode cX11_growth 0 = .ok (.iload_n 1, 1) := by decide +kernel
theorem dX11_growth_1 : decode cX11_growth 1 = .ok (.tableswitch 76 0 3 #[31, 47, 59, 68], 31) := by decide +kernel
theorem dX11_growth_32 : decode cX11_growth 32 = .ok (.aload_n 0, 1) := by decide +kernel
theorem dX11_growth_33 : decode cX11_growth 33 = .ok (.getfield 27, 3) := by decide +kernel
theorem dX11_growth_36 : decode cX11_growth 36 = .ok (.invokevirtual 326, 3) := by decide +kernel
theorem dX11_growth_39 : decode cX11_growth 39 = .ok (.aload_n 0, 1) := by decide +kernel
theorem dX11_growth_40 : decode cX11_growth 40 = .ok (.getfield 27, 3) := by decide +kernel
theorem dX11_growth_43 : decode cX11_growth 43 = .ok (.getfield 329, 3) := by decide +kernel
theorem dX11_growth_46 : decode cX11_growth 46 = .ok (.iadd, 1) := by decide +kernel
theorem dX11_growth_47 : decode cX11_growth 47 = .ok (.ireturn, 1) := by decide +kernel
theorem dX11_growth_48 : decode cX11_growth 48 = .ok (.aload_n 0, 1) := by decide +kernel
theorem dX11_growth_49 : decode cX11_growth 49 = .ok (.invokevirtual 145, 3) := by decide +kernel
theorem dX11_growth_52 : decode cX11_growth 52 = .ok (.aload_n 0, 1) := by decide +kernel
theorem dX11_growth_53 : decode cX11_growth 53 = .ok (.getfield 27, 3) := by decide +kernel
theorem dX11_growth_56 : decode cX11_growth 56 = .ok (.invokevirtual 331, 3) := by decide +kernel
theorem dX11_growth_59 : decode cX11_growth 59 = .ok (.ireturn, 1) := by decide +kernel
theorem dX11_growth_60 : decode cX11_growth 60 = .ok (.aload_n 0, 1) := by decide +kernel
theorem dX11_growth_61 : decode cX11_growth 61 = .ok (.invokevirtual 145, 3) := by decide +kernel
theorem dX11_growth_64 : decode cX11_growth 64 = .ok (.iconst 0, 1) := by decide +kernel
theorem dX11_growth_65 : decode cX11_growth 65 = .ok (.invokevirtual 335, 3) := by decide +kernel
theorem dX11_growth_68 : decode cX11_growth 68 = .ok (.ireturn, 1) := by decide +kernel
theorem dX11_growth_69 : decode cX11_growth 69 = .ok (.aload_n 0, 1) := by decide +kernel
theorem dX11_growth_70 : decode cX11_growth 70 = .ok (.invokevirtual 145, 3) := by decide +kernel
theorem dX11_growth_73 : decode cX11_growth 73 = .ok (.getfield 338, 3) := by decide +kernel
theorem dX11_growth_76 : decode cX11_growth 76 = .ok (.ireturn, 1) := by decide +kernel
theorem dX11_growth_77 : decode cX11_growth 77 = .ok (.iconst (-1), 1) := by decide +kernel
theorem dX11_growth_78 : decode cX11_growth 78 = .ok (.ireturn, 1) := by decide +kernel
def fX11_growth (x0 x1 : Int) (v : V_) : Option (Int × V_) :=
  if x1 = 0 then (
    ck_ (v x0 4 = PA_ ∨ v x0 4 = PB_) (
    bd_ (fX5_allLines (v x0 4) v) fun q4 =>
    ck_ (q4.2 x0 4 = PA_ ∨ q4.2 x0 4 = PB_) (
    some (wr_ (q4.1 + (q4.2 (q4.2 x0 4) 0)), q4.2))))
  else (
  if x1 = 1 then (
    bd_ (fX11_knownPlan x0 v) fun q8 =>
    ck_ (q8.2 x0 4 = PA_ ∨ q8.2 x0 4 = PB_) (
    bd_ (fX4_grown q8.1 (q8.2 x0 4) q8.2) fun q12 =>
    some (q12.1, q12.2)))
  else (
  if x1 = 2 then (
    bd_ (fX11_knownPlan x0 v) fun q14 =>
    bd_ (fX4_added q14.1 0 q14.2) fun q16 =>
    some (q16.1, q16.2))
  else (
  if x1 = 3 then (
    bd_ (fX11_knownPlan x0 v) fun q18 =>
    some (q18.2 q18.1 1, q18.2))
  else (
  some ((-1), v)))))
theorem cX11_growth_ok (l : Launch) {E : En_} {sz : Int} (hC : Cl_ E.2.2.2.2.2 sz) (hG : Pg_ E.2.2.2.2.2) {x0 x1 : Int} {v : V_} {out : Int × V_} (T0 : (E.2.2.2.2.2 x0 ∧ ty_ x0 = 11 ∧ ln_ x0 = 0)) (h : fX11_growth x0 x1 v = some out) : Met l yX11_growth [.code yX11_growth cX11_growth 2 (some FieldType.int)] (rm_ 6 143) (Pc_ E sz v [(2, x0), (0, x1)]) (Qc_ E sz 0 out.1 out.2) 0 0 (fun q => E.1 < q) := by
  refine met_G0 RX11 (by decide +kernel) rfl (Nat.le_of_ble_eq_true rfl) ?_
  intro p e s m args below meth c C hr hlk
  rw [fX11_growth] at h
  refine g_iload_n C (f := 1) dX11_growth_0 1 rfl ?_
  by_cases c1 : x1 = 0
  · replace h := if_t h c1
    refine g_tin C 32 dX11_growth_1 0 c1 (by decide) (by decide) rfl rfl ?_
    refine g_aload_n C (f := 0) dX11_growth_32 0 rfl ?_
    obtain ⟨c2, h⟩ := ck_e h
    refine g_getf C (k := 4) (kd := 2) okX11 (by decide) kf_RX11_27 dX11_growth_33 (rg_ hC T0.1) T0.2.1 rfl ?_
    have F3 := pgF_ hG c2
    obtain ⟨q4, eq4, h⟩ := bd_e h
    refine g_cV C [] (cX5_allLines_ok l hC F3 eq4) okX5 F3.2.1 (rg_ hC F3.1) km_RX11_326 cv_X5_allLines rfl (by decide) rfl rfl (Nat.le_of_ble_eq_true rfl) dX11_growth_36 ?_
    refine g_aload_n C (f := 0) dX11_growth_39 0 rfl ?_
    obtain ⟨c5, h⟩ := ck_e h
    refine g_getf C (k := 4) (kd := 2) okX11 (by decide) kf_RX11_27 dX11_growth_40 (rg_ hC T0.1) T0.2.1 rfl ?_
    have F6 := pgF_ hG c5
    refine g_getf C (k := 0) (kd := 0) okX5 (by decide) kf_RX11_329 dX11_growth_43 (rg_ hC F6.1) F6.2.1 rfl ?_
    refine g_iadd C dX11_growth_46 ?_
    cases h
    exact g_iret C dX11_growth_47 hr hlk
  replace h := if_f h c1
  by_cases c7 : x1 = 1
  · replace h := if_t h c7
    refine g_tin C 48 dX11_growth_1 1 c7 (by decide) (by decide) rfl rfl ?_
    refine g_aload_n C (f := 0) dX11_growth_48 0 rfl ?_
    obtain ⟨q8, eq8, h⟩ := bd_e h
    refine g_cV C [] (cX11_knownPlan_ok l hC hG T0 eq8) okX11 T0.2.1 (rg_ hC T0.1) km_RX11_145 cv_X11_knownPlan rfl (by decide) rfl rfl (Nat.le_of_ble_eq_true rfl) dX11_growth_49 ?_
    have F9 := rX11_knownPlan_ok hC hG T0 eq8
    refine g_aload_n C (f := 0) dX11_growth_52 0 rfl ?_
    obtain ⟨c10, h⟩ := ck_e h
    refine g_getf C (k := 4) (kd := 2) okX11 (by decide) kf_RX11_27 dX11_growth_53 (rg_ hC T0.1) T0.2.1 rfl ?_
    have F11 := pgF_ hG c10
    obtain ⟨q12, eq12, h⟩ := bd_e h
    refine g_cV C [(2, q8.2 x0 4)] (cX4_grown_ok l hC F9 F11 eq12) okX4 F9.2.1 (rg_ hC F9.1) km_RX11_331 cv_X4_grown rfl (by decide) rfl rfl (Nat.le_of_ble_eq_true rfl) dX11_growth_56 ?_
    cases h
    exact g_iret C dX11_growth_59 hr hlk
  replace h := if_f h c7
  by_cases c13 : x1 = 2
  · replace h := if_t h c13
    refine g_tin C 60 dX11_growth_1 2 c13 (by decide) (by decide) rfl rfl ?_
    refine g_aload_n C (f := 0) dX11_growth_60 0 rfl ?_
    obtain ⟨q14, eq14, h⟩ := bd_e h
    refine g_cV C [] (cX11_knownPlan_ok l hC hG T0 eq14) okX11 T0.2.1 (rg_ hC T0.1) km_RX11_145 cv_X11_knownPlan rfl (by decide) rfl rfl (Nat.le_of_ble_eq_true rfl) dX11_growth_61 ?_
    have F15 := rX11_knownPlan_ok hC hG T0 eq14
    refine g_iconst C (n := 0) dX11_growth_64 (by decide) ?_
    obtain ⟨q16, eq16, h⟩ := bd_e h
    refine g_cV C [(0, 0)] (cX4_added_ok l hC F15 eq16) okX4 F15.2.1 (rg_ hC F15.1) km_RX11_335 cv_X4_added rfl (by decide) rfl rfl (Nat.le_of_ble_eq_true rfl) dX11_growth_65 ?_
    cases h
    exact g_iret C dX11_growth_68 hr hlk
  replace h := if_f h c13
  by_cases c17 : x1 = 3
  · replace h := if_t h c17
    refine g_tin C 69 dX11_growth_1 3 c17 (by decide) (by decide) rfl rfl ?_
    refine g_aload_n C (f := 0) dX11_growth_69 0 rfl ?_
    obtain ⟨q18, eq18, h⟩ := bd_e h
    refine g_cV C [] (cX11_knownPlan_ok l hC hG T0 eq18) okX11 T0.2.1 (rg_ hC T0.1) km_RX11_145 cv_X11_knownPlan rfl (by decide) rfl rfl (Nat.le_of_ble_eq_true rfl) dX11_growth_70 ?_
    have F19 := rX11_knownPlan_ok hC hG T0 eq18
    refine g_getf C (k := 1) (kd := 0) okX4 (by decide) kf_RX11_338 dX11_growth_73 (rg_ hC F19.1) F19.2.1 rfl ?_
    cases h
    exact g_iret C dX11_growth_76 hr hlk
  replace h := if_f h c17
  refine g_tdef C (x := x1) 77 dX11_growth_1 (by intro a ha h1 h2; exact absurd h2 (by omega)) rfl ?_
  refine g_iconst C (n := (-1)) dX11_growth_77 (by decide) ?_
  cases h
  exact g_iret C dX11_growth_78 hr hlk
theorem dX11_isSlot_0 : decode cX11_isSlot 0 = .ok (.iload_n 0, 1) := by decide +kernel
theorem dX11_isSlot_1 : decode cX11_isSlot 1 = .ok (.ifCond .lt 12, 3) := by decide +kernel
theorem dX11_isSlot_4 : decode cX11_isSlot 4 = .ok (.iload_n 0, 1) := by decide +kernel
theorem dX11_isSlot_5 : decode cX11_isSlot 5 = .ok (.iconst 3, 1) := by decide +kernel
theorem dX11_isSlot_6 : decode cX11_isSlot 6 = .ok (.if_icmp .ge 7, 3) := by decide +kernel
theorem dX11_isSlot_9 : decode cX11_isSlot 9 = .ok (.iconst 1, 1) := by decide +kernel
theorem dX11_isSlot_10 : decode cX11_isSlot 10 = .ok (.goto 4, 3) := by decide +kernel
theorem dX11_isSlot_13 : decode cX11_isSlot 13 = .ok (.iconst 0, 1) := by decide +kernel
theorem dX11_isSlot_14 : decode cX11_isSlot 14 = .ok (.ireturn, 1) := by decide +kernel
def fX11_isSlot (x0 : Int) (v : V_) : Option (Int × V_) :=
  if x0 < 0 then (
    some (0, v))
  else (
    if 3 ≤ x0 then (
      some (0, v))
    else (
      some (1, v)))
theorem cX11_isSlot_ok (l : Launch) {E : En_} {sz : Int} (hC : Cl_ E.2.2.2.2.2 sz) {x0 : Int} {v : V_} {out : Int × V_} (h : fX11_isSlot x0 v = some out) : Met l yX11_isSlot [.code yX11_isSlot cX11_isSlot 1 (some FieldType.boolean)] (rm_ 0 0) (Pc_ E sz v [(0, x0)]) (Qc_ E sz 0 out.1 out.2) 0 0 (fun q => E.1 < q) := by
  refine met_G0 RX11 (by decide +kernel) rfl (Nat.le_of_ble_eq_true rfl) ?_
  intro p e s m args below meth c C hr hlk
  rw [fX11_isSlot] at h
  refine g_iload_n C (f := 0) dX11_isSlot_0 0 rfl ?_
  refine g_if_lt C 13 dX11_isSlot_1 rfl (fun c1 => ?_) (fun c1 => ?_)
  · replace h := if_t h c1
    refine g_iconst C (n := 0) dX11_isSlot_13 (by decide) ?_
    cases h
    exact g_zret C dX11_isSlot_14 hr hlk (Or.inl rfl)
  · replace h := if_f h c1
    refine g_iload_n C (f := 0) dX11_isSlot_4 0 rfl ?_
    refine g_iconst C (n := 3) dX11_isSlot_5 (by decide) ?_
    refine g_icmp_ge C 13 dX11_isSlot_6 rfl (fun c2 => ?_) (fun c2 => ?_)
    · replace h := if_t h c2
      refine g_iconst C (n := 0) dX11_isSlot_13 (by decide) ?_
      cases h
      exact g_zret C dX11_isSlot_14 hr hlk (Or.inl rfl)
    · replace h := if_f h c2
      refine g_iconst C (n := 1) dX11_isSlot_9 (by decide) ?_
      refine g_goto C 14 dX11_isSlot_10 rfl ?_
      cases h
      exact g_zret C dX11_isSlot_14 hr hlk (Or.inr rfl)
theorem dX11_hold_0 : decode cX11_hold 0 = .ok (.iload_n 1, 1) := by decide +kernel
theorem dX11_hold_1 : decode cX11_hold 1 = .ok (.invokestatic 345, 3) := by decide +kernel
theorem dX11_hold_4 : decode cX11_hold 4 = .ok (.ifCond .ne 5, 3) := by decide +kernel
theorem dX11_hold_7 : decode cX11_hold 7 = .ok (.iconst 0, 1) := by decide +kernel
theorem dX11_hold_8 : decode cX11_hold 8 = .ok (.ireturn, 1) := by decide +kernel
theorem dX11_hold_9 : decode cX11_hold 9 = .ok (.aload_n 0, 1) := by decide +kernel
theorem dX11_hold_10 : decode cX11_hold 10 = .ok (.getfield 44, 3) := by decide +kernel
theorem dX11_hold_13 : decode cX11_hold 13 = .ok (.iload_n 1, 1) := by decide +kernel
theorem dX11_hold_14 : decode cX11_hold 14 = .ok (.aload_n 0, 1) := by decide +kernel
theorem dX11_hold_15 : decode cX11_hold 15 = .ok (.getfield 37, 3) := by decide +kernel
theorem dX11_hold_18 : decode cX11_hold 18 = .ok (.invokevirtual 348, 3) := by decide +kernel
theorem dX11_hold_21 : decode cX11_hold 21 = .ok (.iconst 1, 1) := by decide +kernel
theorem dX11_hold_22 : decode cX11_hold 22 = .ok (.ireturn, 1) := by decide +kernel
def fX11_hold (x0 x1 : Int) (v : V_) : Option (Int × V_) :=
  bd_ (fX11_isSlot x1 v) fun q1 =>
  if q1.1 = 0 then (
    some (0, q1.2))
  else (
    bd_ (fX0_keep (x0 + 141) x1 (x0 + 139) q1.2) fun q5 =>
    some (1, q5.2))
theorem cX11_hold_ok (l : Launch) {E : En_} {sz : Int} (hC : Cl_ E.2.2.2.2.2 sz) (hG : Pg_ E.2.2.2.2.2) {x0 x1 : Int} {v : V_} {out : Int × V_} (T0 : (E.2.2.2.2.2 x0 ∧ ty_ x0 = 11 ∧ ln_ x0 = 0)) (h : fX11_hold x0 x1 v = some out) : Met l yX11_hold [.code yX11_hold cX11_hold 2 (some FieldType.boolean)] (rm_ 2 48) (Pc_ E sz v [(2, x0), (0, x1)]) (Qc_ E sz 0 out.1 out.2) 0 0 (fun q => E.1 < q) := by
  refine met_G0 RX11 (by decide +kernel) rfl (Nat.le_of_ble_eq_true rfl) ?_
  intro p e s m args below meth c C hr hlk
  rw [fX11_hold] at h
  refine g_iload_n C (f := 1) dX11_hold_0 1 rfl ?_
  obtain ⟨q1, eq1, h⟩ := bd_e h
  refine g_cS C [(0, x1)] (cX11_isSlot_ok l hC eq1) km_RX11_345 cs_X11_isSlot rfl (by decide) rfl rfl (Nat.le_of_ble_eq_true rfl) dX11_hold_1 ?_
  refine g_if_ne C 9 dX11_hold_4 rfl (fun c2 => ?_) (fun c2 => ?_)
  · replace h := if_f h c2
    refine g_aload_n C (f := 0) dX11_hold_9 0 rfl ?_
    have F3 := fX11_7 hC T0.1 T0.2.1
    refine g_getR C (k := 7) (o := 141) okX11 (by decide) kf_RX11_44 dX11_hold_10 hC T0.1 T0.2.1 rfl rfl ?_
    refine g_iload_n C (f := 1) dX11_hold_13 1 rfl ?_
    refine g_aload_n C (f := 0) dX11_hold_14 0 rfl ?_
    have F4 := fX11_6 hC T0.1 T0.2.1
    refine g_getR C (k := 6) (o := 139) okX11 (by decide) kf_RX11_37 dX11_hold_15 hC T0.1 T0.2.1 rfl rfl ?_
    obtain ⟨q5, eq5, h⟩ := bd_e h
    refine g_cV C [(0, x1), (2, x0 + 139)] (cX0_keep_ok l hC F3 F4 eq5) okX0 F3.2.1 (rg_ hC F3.1) km_RX11_348 cv_X0_keep rfl (by decide) rfl rfl (Nat.le_of_ble_eq_true rfl) dX11_hold_18 ?_
    refine g_iconst C (n := 1) dX11_hold_21 (by decide) ?_
    cases h
    exact g_zret C dX11_hold_22 hr hlk (Or.inr rfl)
  · replace h := if_t h c2
    refine g_iconst C (n := 0) dX11_hold_7 (by decide) ?_
    cases h
    exact g_zret C dX11_hold_8 hr hlk (Or.inl rfl)
theorem dX11_item_0 : decode cX11_item 0 = .ok (.aload_n 0, 1) := by decide +kernel
theorem dX11_item_1 : decode cX11_item 1 = .ok (.invokevirtual 145, 3) := by decide +kernel
theorem dX11_item_4 : decode cX11_item 4 = .ok (.iload_n 1, 1) := by decide +kernel
theorem dX11_item_5 : decode cX11_item 5 = .ok (.invokevirtual 227, 3) := by decide +kernel
theorem dX11_item_8 : decode cX11_item 8 = .ok (.iload_n 2, 1) := by decide +kernel
theorem dX11_item_9 : decode cX11_item 9 = .ok (.invokestatic 264, 3) := by decide +kernel
theorem dX11_item_12 : decode cX11_item 12 = .ok (.astore 4, 2) := by decide +kernel
theorem dX11_item_14 : decode cX11_item 14 = .ok (.aload 4, 2) := by decide +kernel
theorem dX11_item_16 : decode cX11_item 16 = .ok (.ifnonnull 5, 3) := by decide +kernel
theorem dX11_item_19 : decode cX11_item 19 = .ok (.iconst (-1), 1) := by decide +kernel
theorem dX11_item_20 : decode cX11_item 20 = .ok (.ireturn, 1) := by decide +kernel
theorem dX11_item_21 : decode cX11_item 21 = .ok (.iload_n 3, 1) := by decide +kernel
theorem dX11_item_22 : decode cX11_item 22 = .ok (.tableswitch 118 0 8 #[50, 56, 62, 68, 77, 83, 92, 106, 112], 50) := by decide +kernel
theorem dX11_item_72 : decode cX11_item 72 = .ok (.aload 4, 2) := by decide +kernel
theorem dX11_item_74 : decode cX11_item 74 = .ok (.getfield 268, 3) := by decide +kernel
theorem dX11_item_77 : decode cX11_item 77 = .ok (.ireturn, 1) := by decide +kernel
theorem dX11_item_78 : decode cX11_item 78 = .ok (.aload 4, 2) := by decide +kernel
theorem dX11_item_80 : decode cX11_item 80 = .ok (.getfield 273, 3) := by decide +kernel
theorem dX11_item_83 : decode cX11_item 83 = .ok (.ireturn, 1) := by decide +kernel
theorem dX11_item_84 : decode cX11_item 84 = .ok (.aload 4, 2) := by decide +kernel
theorem dX11_item_86 : decode cX11_item 86 = .ok (.getfield 276, 3) := by decide +kernel
theorem dX11_item_89 : decode cX11_item 89 = .ok (.ireturn, 1) := by decide +kernel
theorem dX11_item_90 : decode cX11_item 90 = .ok (.aload 4, 2) := by decide +kernel
theorem dX11_item_92 : decode cX11_item 92 = .ok (.getfield 279, 3) := by decide +kernel
theorem dX11_item_95 : decode cX11_item 95 = .ok (.invokevirtual 283, 3) := by decide +kernel
theorem dX11_item_98 : decode cX11_item 98 = .ok (.ireturn, 1) := by decide +kernel
theorem dX11_item_99 : decode cX11_item 99 = .ok (.aload 4, 2) := by decide +kernel
theorem dX11_item_101 : decode cX11_item 101 = .ok (.getfield 286, 3) := by decide +kernel
theorem dX11_item_104 : decode cX11_item 104 = .ok (.ireturn, 1) := by decide +kernel
theorem dX11_item_105 : decode cX11_item 105 = .ok (.aload 4, 2) := by decide +kernel
theorem dX11_item_107 : decode cX11_item 107 = .ok (.getfield 279, 3) := by decide +kernel
theorem dX11_item_110 : decode cX11_item 110 = .ok (.getfield 289, 3) := by decide +kernel
theorem dX11_item_113 : decode cX11_item 113 = .ok (.ireturn, 1) := by decide +kernel
theorem dX11_item_114 : decode cX11_item 114 = .ok (.aload 4, 2) := by decide +kernel
theorem dX11_item_116 : decode cX11_item 116 = .ok (.getfield 292, 3) := by decide +kernel
theorem dX11_item_119 : decode cX11_item 119 = .ok (.ifCond .eq 7, 3) := by decide +kernel
theorem dX11_item_122 : decode cX11_item 122 = .ok (.iconst 1, 1) := by decide +kernel
theorem dX11_item_123 : decode cX11_item 123 = .ok (.goto 4, 3) := by decide +kernel
theorem dX11_item_126 : decode cX11_item 126 = .ok (.iconst 0, 1) := by decide +kernel
theorem dX11_item_127 : decode cX11_item 127 = .ok (.ireturn, 1) := by decide +kernel
theorem dX11_item_128 : decode cX11_item 128 = .ok (.aload 4, 2) := by decide +kernel
theorem dX11_item_130 : decode cX11_item 130 = .ok (.getfield 296, 3) := by decide +kernel
theorem dX11_item_133 : decode cX11_item 133 = .ok (.ireturn, 1) := by decide +kernel
theorem dX11_item_134 : decode cX11_item 134 = .ok (.aload 4, 2) := by decide +kernel
theorem dX11_item_136 : decode cX11_item 136 = .ok (.getfield 297, 3) := by decide +kernel
theorem dX11_item_139 : decode cX11_item 139 = .ok (.ireturn, 1) := by decide +kernel
theorem dX11_item_140 : decode cX11_item 140 = .ok (.iconst (-1), 1) := by decide +kernel
theorem dX11_item_141 : decode cX11_item 141 = .ok (.ireturn, 1) := by decide +kernel
def fX11_item (x0 x1 x2 x3 : Int) (v : V_) : Option (Int × V_) :=
  bd_ (fX11_knownPlan x0 v) fun q1 =>
  bd_ (fX4_traceAt q1.1 x1 q1.2) fun q3 =>
  bd_ (fX11_itemOf q3.1 x2 q3.2) fun q5 =>
  if q5.1 = 0 then (
    some ((-1), q5.2))
  else (
    if x3 = 0 then (
      some (q5.2 q5.1 1, q5.2))
    else (
    if x3 = 1 then (
      some (q5.2 q5.1 7, q5.2))
    else (
    if x3 = 2 then (
      some (q5.2 q5.1 2, q5.2))
    else (
    if x3 = 3 then (
      bd_ (fX8_kindOf (q5.1 + 1) q5.2) fun q14 =>
      some (q14.1, q14.2))
    else (
    if x3 = 4 then (
      some (q5.2 q5.1 8, q5.2))
    else (
    if x3 = 5 then (
      some (q5.2 (q5.1 + 1) 1, q5.2))
    else (
    if x3 = 6 then (
      if (q5.2 q5.1 10) = 0 then (
        some (0, q5.2))
      else (
        some (1, q5.2)))
    else (
    if x3 = 7 then (
      some (q5.2 q5.1 9, q5.2))
    else (
    if x3 = 8 then (
      some (q5.2 q5.1 5, q5.2))
    else (
    some ((-1), q5.2)))))))))))
theorem cX11_item_ok (l : Launch) {E : En_} {sz : Int} (hC : Cl_ E.2.2.2.2.2 sz) (hG : Pg_ E.2.2.2.2.2) {x0 x1 x2 x3 : Int} {v : V_} {out : Int × V_} (T0 : (E.2.2.2.2.2 x0 ∧ ty_ x0 = 11 ∧ ln_ x0 = 0)) (h : fX11_item x0 x1 x2 x3 v = some out) : Met l yX11_item [.code yX11_item cX11_item 5 (some FieldType.int)] (rm_ 6 143) (Pc_ E sz v [(2, x0), (0, x1), (0, x2), (0, x3)]) (Qc_ E sz 0 out.1 out.2) 0 0 (fun q => E.1 < q) := by
  refine met_G0 RX11 (by decide +kernel) rfl (Nat.le_of_ble_eq_true rfl) ?_
  intro p e s m args below meth c C hr hlk
  rw [fX11_item] at h
  refine g_aload_n C (f := 0) dX11_item_0 0 rfl ?_
  obtain ⟨q1, eq1, h⟩ := bd_e h
  refine g_cV C [] (cX11_knownPlan_ok l hC hG T0 eq1) okX11 T0.2.1 (rg_ hC T0.1) km_RX11_145 cv_X11_knownPlan rfl (by decide) rfl rfl (Nat.le_of_ble_eq_true rfl) dX11_item_1 ?_
  have F2 := rX11_knownPlan_ok hC hG T0 eq1
  refine g_iload_n C (f := 1) dX11_item_4 1 rfl ?_
  obtain ⟨q3, eq3, h⟩ := bd_e h
  refine g_cV C [(0, x1)] (cX4_traceAt_ok l hC F2 eq3) okX4 F2.2.1 (rg_ hC F2.1) km_RX11_227 cv_X4_traceAt rfl (by decide) rfl rfl (Nat.le_of_ble_eq_true rfl) dX11_item_5 ?_
  have F4 := rX4_traceAt_ok hC F2 eq3
  refine g_iload_n C (f := 2) dX11_item_8 2 rfl ?_
  obtain ⟨q5, eq5, h⟩ := bd_e h
  refine g_cS C [(2, q3.1), (0, x2)] (cX11_itemOf_ok l hC F4 eq5) km_RX11_264 cs_X11_itemOf rfl (by decide) rfl rfl (Nat.le_of_ble_eq_true rfl) dX11_item_9 ?_
  have F6 := rX11_itemOf_ok hC F4 eq5
  refine g_astore C (i := 4) (ls' := [(4, (2, q5.1)), (0, (2, x0)), (1, (0, x1)), (2, (0, x2)), (3, (0, x3))]) dX11_item_12 (by decide) rfl ?_
  refine g_aload C (i := 4) dX11_item_14 0 rfl ?_
  refine g_ifnonnull C 21 dX11_item_16 rfl (fun c7 => ?_) (fun c7 => ?_)
  · replace h := if_f h c7
    have F8 := Or.resolve_left F6 c7
    refine g_iload_n C (f := 3) dX11_item_21 4 rfl ?_
    by_cases c9 : x3 = 0
    · replace h := if_t h c9
      refine g_tin C 72 dX11_item_22 0 c9 (by decide) (by decide) rfl rfl ?_
      refine g_aload C (i := 4) dX11_item_72 0 rfl ?_
      refine g_getf C (k := 1) (kd := 0) okX1 (by decide) kf_RX11_268 dX11_item_74 (rg_ hC F8.1) F8.2.1 rfl ?_
      cases h
      exact g_iret C dX11_item_77 hr hlk
    replace h := if_f h c9
    by_cases c10 : x3 = 1
    · replace h := if_t h c10
      refine g_tin C 78 dX11_item_22 1 c10 (by decide) (by decide) rfl rfl ?_
      refine g_aload C (i := 4) dX11_item_78 0 rfl ?_
      refine g_getf C (k := 7) (kd := 0) okX1 (by decide) kf_RX11_273 dX11_item_80 (rg_ hC F8.1) F8.2.1 rfl ?_
      cases h
      exact g_iret C dX11_item_83 hr hlk
    replace h := if_f h c10
    by_cases c11 : x3 = 2
    · replace h := if_t h c11
      refine g_tin C 84 dX11_item_22 2 c11 (by decide) (by decide) rfl rfl ?_
      refine g_aload C (i := 4) dX11_item_84 0 rfl ?_
      refine g_getf C (k := 2) (kd := 0) okX1 (by decide) kf_RX11_276 dX11_item_86 (rg_ hC F8.1) F8.2.1 rfl ?_
      cases h
      exact g_iret C dX11_item_89 hr hlk
    replace h := if_f h c11
    by_cases c12 : x3 = 3
    · replace h := if_t h c12
      refine g_tin C 90 dX11_item_22 3 c12 (by decide) (by decide) rfl rfl ?_
      refine g_aload C (i := 4) dX11_item_90 0 rfl ?_
      have F13 := fX1_0 hC F8.1 F8.2.1
      refine g_getR C (k := 0) (o := 1) okX1 (by decide) kf_RX11_279 dX11_item_92 hC F8.1 F8.2.1 rfl rfl ?_
      obtain ⟨q14, eq14, h⟩ := bd_e h
      refine g_cV C [] (cX8_kindOf_ok l hC F13 eq14) okX8 F13.2.1 (rg_ hC F13.1) km_RX11_283 cv_X8_kindOf rfl (by decide) rfl rfl (Nat.le_of_ble_eq_true rfl) dX11_item_95 ?_
      cases h
      exact g_iret C dX11_item_98 hr hlk
    replace h := if_f h c12
    by_cases c15 : x3 = 4
    · replace h := if_t h c15
      refine g_tin C 99 dX11_item_22 4 c15 (by decide) (by decide) rfl rfl ?_
      refine g_aload C (i := 4) dX11_item_99 0 rfl ?_
      refine g_getf C (k := 8) (kd := 0) okX1 (by decide) kf_RX11_286 dX11_item_101 (rg_ hC F8.1) F8.2.1 rfl ?_
      cases h
      exact g_iret C dX11_item_104 hr hlk
    replace h := if_f h c15
    by_cases c16 : x3 = 5
    · replace h := if_t h c16
      refine g_tin C 105 dX11_item_22 5 c16 (by decide) (by decide) rfl rfl ?_
      refine g_aload C (i := 4) dX11_item_105 0 rfl ?_
      have F17 := fX1_0 hC F8.1 F8.2.1
      refine g_getR C (k := 0) (o := 1) okX1 (by decide) kf_RX11_279 dX11_item_107 hC F8.1 F8.2.1 rfl rfl ?_
      refine g_getf C (k := 1) (kd := 0) okX8 (by decide) kf_RX11_289 dX11_item_110 (rg_ hC F17.1) F17.2.1 rfl ?_
      cases h
      exact g_iret C dX11_item_113 hr hlk
    replace h := if_f h c16
    by_cases c18 : x3 = 6
    · replace h := if_t h c18
      refine g_tin C 114 dX11_item_22 6 c18 (by decide) (by decide) rfl rfl ?_
      refine g_aload C (i := 4) dX11_item_114 0 rfl ?_
      refine g_getf C (k := 10) (kd := 0) okX1 (by decide) kf_RX11_292 dX11_item_116 (rg_ hC F8.1) F8.2.1 rfl ?_
      refine g_if_eq C 126 dX11_item_119 rfl (fun c19 => ?_) (fun c19 => ?_)
      · replace h := if_t h c19
        refine g_iconst C (n := 0) dX11_item_126 (by decide) ?_
        cases h
        exact g_iret C dX11_item_127 hr hlk
      · replace h := if_f h c19
        refine g_iconst C (n := 1) dX11_item_122 (by decide) ?_
        refine g_goto C 127 dX11_item_123 rfl ?_
        cases h
        exact g_iret C dX11_item_127 hr hlk
    replace h := if_f h c18
    by_cases c20 : x3 = 7
    · replace h := if_t h c20
      refine g_tin C 128 dX11_item_22 7 c20 (by decide) (by decide) rfl rfl ?_
      refine g_aload C (i := 4) dX11_item_128 0 rfl ?_
      refine g_getf C (k := 9) (kd := 0) okX1 (by decide) kf_RX11_296 dX11_item_130 (rg_ hC F8.1) F8.2.1 rfl ?_
      cases h
      exact g_iret C dX11_item_133 hr hlk
    replace h := if_f h c20
    by_cases c21 : x3 = 8
    · replace h := if_t h c21
      refine g_tin C 134 dX11_item_22 8 c21 (by decide) (by decide) rfl rfl ?_
      refine g_aload C (i := 4) dX11_item_134 0 rfl ?_
      refine g_getf C (k := 5) (kd := 0) okX1 (by decide) kf_RX11_297 dX11_item_136 (rg_ hC F8.1) F8.2.1 rfl ?_
      cases h
      exact g_iret C dX11_item_139 hr hlk
    replace h := if_f h c21
    refine g_tdef C (x := x3) 140 dX11_item_22 (by intro a ha h1 h2; exact absurd h2 (by omega)) rfl ?_
    refine g_iconst C (n := (-1)) dX11_item_140 (by decide) ?_
    cases h
    exact g_iret C dX11_item_141 hr hlk
  · replace h := if_t h c7
    refine g_iconst C (n := (-1)) dX11_item_19 (by decide) ?_
    cases h
    exact g_iret C dX11_item_20 hr hlk
theorem dX11_kind_0 : decode cX11_kind 0 = .ok (.iload_n 1, 1) := by decide +kernel
theorem dX11_kind_1 : decode cX11_kind 1 = .ok (.invokestatic 110, 3) := by decide +kernel
theorem dX11_kind_4 : decode cX11_kind 4 = .ok (.ifCond .eq 12, 3) := by decide +kernel
theorem dX11_kind_7 : decode cX11_kind 7 = .ok (.iload_n 2, 1) := by decide +kernel
theorem dX11_kind_8 : decode cX11_kind 8 = .ok (.ifCond .lt 8, 3) := by decide +kernel
theorem dX11_kind_11 : decode cX11_kind 11 = .ok (.iload_n 2, 1) := by decide +kernel
theorem dX11_kind_12 : decode cX11_kind 12 = .ok (.iconst 1, 1) := by decide +kernel
theorem dX11_kind_13 : decode cX11_kind 13 = .ok (.if_icmp .le 5, 3) := by decide +kernel
theorem dX11_kind_16 : decode cX11_kind 16 = .ok (.iconst (-1), 1) := by decide +kernel
theorem dX11_kind_17 : decode cX11_kind 17 = .ok (.ireturn, 1) := by decide +kernel
theorem dX11_kind_18 : decode cX11_kind 18 = .ok (.iload_n 2, 1) := by decide +kernel
theorem dX11_kind_19 : decode cX11_kind 19 = .ok (.ifCond .ne 14, 3) := by decide +kernel
theorem dX11_kind_22 : decode cX11_kind 22 = .ok (.aload_n 0, 1) := by decide +kernel
theorem dX11_kind_23 : decode cX11_kind 23 = .ok (.getfield 37, 3) := by decide +kernel
theorem dX11_kind_26 : decode cX11_kind 26 = .ok (.iload_n 1, 1) := by decide +kernel
theorem dX11_kind_27 : decode cX11_kind 27 = .ok (.invokevirtual 113, 3) := by decide +kernel
theorem dX11_kind_30 : decode cX11_kind 30 = .ok (.goto 11, 3) := by decide +kernel
theorem dX11_kind_33 : decode cX11_kind 33 = .ok (.aload_n 0, 1) := by decide +kernel
theorem dX11_kind_34 : decode cX11_kind 34 = .ok (.getfield 37, 3) := by decide +kernel
theorem dX11_kind_37 : decode cX11_kind 37 = .ok (.iload_n 1, 1) := by decide +kernel
theorem dX11_kind_38 : decode cX11_kind 38 = .ok (.invokevirtual 116, 3) := by decide +kernel
theorem dX11_kind_41 : decode cX11_kind 41 = .ok (.ireturn, 1) := by decide +kernel
def fX11_kind (x0 x1 x2 : Int) (v : V_) : Option (Int × V_) :=
  bd_ (fX11_isKind x1 v) fun q1 =>
  if q1.1 = 0 then (
    some ((-1), q1.2))
  else (
    if x2 < 0 then (
      some ((-1), q1.2))
    else (
      if x2 ≤ 1 then (
        if x2 = 0 then (
          bd_ (fX7_unitsOf (x0 + 139) x1 q1.2) fun q9 =>
          some (q9.1, q9.2))
        else (
          bd_ (fX7_latencyOf (x0 + 139) x1 q1.2) fun q7 =>
          some (q7.1, q7.2)))
      else (
        some ((-1), q1.2))))
theorem cX11_kind_ok (l : Launch) {E : En_} {sz : Int} (hC : Cl_ E.2.2.2.2.2 sz) (hG : Pg_ E.2.2.2.2.2) {x0 x1 x2 : Int} {v : V_} {out : Int × V_} (T0 : (E.2.2.2.2.2 x0 ∧ ty_ x0 = 11 ∧ ln_ x0 = 0)) (h : fX11_kind x0 x1 x2 v = some out) : Met l yX11_kind [.code yX11_kind cX11_kind 3 (some FieldType.int)] (rm_ 1 21) (Pc_ E sz v [(2, x0), (0, x1), (0, x2)]) (Qc_ E sz 0 out.1 out.2) 0 0 (fun q => E.1 < q) := by
  refine met_G0 RX11 (by decide +kernel) rfl (Nat.le_of_ble_eq_true rfl) ?_
  intro p e s m args below meth c C hr hlk
  rw [fX11_kind] at h
  refine g_iload_n C (f := 1) dX11_kind_0 1 rfl ?_
  obtain ⟨q1, eq1, h⟩ := bd_e h
  refine g_cS C [(0, x1)] (cX11_isKind_ok l hC eq1) km_RX11_110 cs_X11_isKind rfl (by decide) rfl rfl (Nat.le_of_ble_eq_true rfl) dX11_kind_1 ?_
  refine g_if_eq C 16 dX11_kind_4 rfl (fun c2 => ?_) (fun c2 => ?_)
  · replace h := if_t h c2
    refine g_iconst C (n := (-1)) dX11_kind_16 (by decide) ?_
    cases h
    exact g_iret C dX11_kind_17 hr hlk
  · replace h := if_f h c2
    refine g_iload_n C (f := 2) dX11_kind_7 2 rfl ?_
    refine g_if_lt C 16 dX11_kind_8 rfl (fun c3 => ?_) (fun c3 => ?_)
    · replace h := if_t h c3
      refine g_iconst C (n := (-1)) dX11_kind_16 (by decide) ?_
      cases h
      exact g_iret C dX11_kind_17 hr hlk
    · replace h := if_f h c3
      refine g_iload_n C (f := 2) dX11_kind_11 2 rfl ?_
      refine g_iconst C (n := 1) dX11_kind_12 (by decide) ?_
      refine g_icmp_le C 18 dX11_kind_13 rfl (fun c4 => ?_) (fun c4 => ?_)
      · replace h := if_t h c4
        refine g_iload_n C (f := 2) dX11_kind_18 2 rfl ?_
        refine g_if_ne C 33 dX11_kind_19 rfl (fun c5 => ?_) (fun c5 => ?_)
        · replace h := if_f h c5
          refine g_aload_n C (f := 0) dX11_kind_33 0 rfl ?_
          have F6 := fX11_6 hC T0.1 T0.2.1
          refine g_getR C (k := 6) (o := 139) okX11 (by decide) kf_RX11_37 dX11_kind_34 hC T0.1 T0.2.1 rfl rfl ?_
          refine g_iload_n C (f := 1) dX11_kind_37 1 rfl ?_
          obtain ⟨q7, eq7, h⟩ := bd_e h
          refine g_cV C [(0, x1)] (cX7_latencyOf_ok l hC F6 eq7) okX7 F6.2.1 (rg_ hC F6.1) km_RX11_116 cv_X7_latencyOf rfl (by decide) rfl rfl (Nat.le_of_ble_eq_true rfl) dX11_kind_38 ?_
          cases h
          exact g_iret C dX11_kind_41 hr hlk
        · replace h := if_t h c5
          refine g_aload_n C (f := 0) dX11_kind_22 0 rfl ?_
          have F8 := fX11_6 hC T0.1 T0.2.1
          refine g_getR C (k := 6) (o := 139) okX11 (by decide) kf_RX11_37 dX11_kind_23 hC T0.1 T0.2.1 rfl rfl ?_
          refine g_iload_n C (f := 1) dX11_kind_26 1 rfl ?_
          obtain ⟨q9, eq9, h⟩ := bd_e h
          refine g_cV C [(0, x1)] (cX7_unitsOf_ok l hC F8 eq9) okX7 F8.2.1 (rg_ hC F8.1) km_RX11_113 cv_X7_unitsOf rfl (by decide) rfl rfl (Nat.le_of_ble_eq_true rfl) dX11_kind_27 ?_
          refine g_goto C 41 dX11_kind_30 rfl ?_
          cases h
          exact g_iret C dX11_kind_41 hr hlk
      · replace h := if_f h c4
        refine g_iconst C (n := (-1)) dX11_kind_16 (by decide) ?_
        cases h
        exact g_iret C dX11_kind_17 hr hlk
theorem dX11_left_0 : decode cX11_left 0 = .ok (.aload_n 0, 1) := by decide +kernel
theorem dX11_left_1 : decode cX11_left 1 = .ok (.invokevirtual 313, 3) := by decide +kernel
theorem dX11_left_4 : decode cX11_left 4 = .ok (.astore_n 2, 1) := by decide +kernel
theorem dX11_left_5 : decode cX11_left 5 = .ok (.aload_n 2, 1) := by decide +kernel
theorem dX11_left_6 : decode cX11_left 6 = .ok (.getfield 182, 3) := by decide +kernel
theorem dX11_left_9 : decode cX11_left 9 = .ok (.ifCond .eq 5, 3) := by decide +kernel
theorem dX11_left_12 : decode cX11_left 12 = .ok (.iconst 0, 1) := by decide +kernel
theorem dX11_left_13 : decode cX11_left 13 = .ok (.ireturn, 1) := by decide +kernel
theorem dX11_left_14 : decode cX11_left 14 = .ok (.iload_n 1, 1) := by decide +kernel
theorem dX11_left_15 : decode cX11_left 15 = .ok (.invokestatic 96, 3) := by decide +kernel
theorem dX11_left_18 : decode cX11_left 18 = .ok (.ifCond .eq 10, 3) := by decide +kernel
theorem dX11_left_21 : decode cX11_left 21 = .ok (.aload_n 2, 1) := by decide +kernel
theorem dX11_left_22 : decode cX11_left 22 = .ok (.getfield 185, 3) := by decide +kernel
theorem dX11_left_25 : decode cX11_left 25 = .ok (.iload_n 1, 1) := by decide +kernel
theorem dX11_left_26 : decode cX11_left 26 = .ok (.iaload, 1) := by decide +kernel
theorem dX11_left_27 : decode cX11_left 27 = .ok (.ireturn, 1) := by decide +kernel
theorem dX11_left_28 : decode cX11_left 28 = .ok (.iload_n 1, 1) := by decide +kernel
theorem dX11_left_29 : decode cX11_left 29 = .ok (.bipush 8, 2) := by decide +kernel
theorem dX11_left_31 : decode cX11_left 31 = .ok (.if_icmp .lt 21, 3) := by decide +kernel
theorem dX11_left_34 : decode cX11_left 34 = .ok (.iload_n 1, 1) := by decide +kernel
theorem dX11_left_35 : decode cX11_left 35 = .ok (.bipush 16, 2) := by decide +kernel
theorem dX11_left_37 : decode cX11_left 37 = .ok (.if_icmp .ge 15, 3) := by decide +kernel
theorem dX11_left_40 : decode cX11_left 40 = .ok (.aload_n 2, 1) := by decide +kernel
theorem dX11_left_41 : decode cX11_left 41 = .ok (.getfield 188, 3) := by decide +kernel
theorem dX11_left_44 : decode cX11_left 44 = .ok (.iload_n 1, 1) := by decide +kernel
theorem dX11_left_45 : decode cX11_left 45 = .ok (.bipush 8, 2) := by decide +kernel
theorem dX11_left_47 : decode cX11_left 47 = .ok (.isub, 1) := by decide +kernel
theorem dX11_left_48 : decode cX11_left 48 = .ok (.iaload, 1) := by decide +kernel
theorem dX11_left_49 : decode cX11_left 49 = .ok (.goto 4, 3) := by decide +kernel
theorem dX11_left_52 : decode cX11_left 52 = .ok (.iconst 0, 1) := by decide +kernel
theorem dX11_left_53 : decode cX11_left 53 = .ok (.ireturn, 1) := by decide +kernel
def fX11_left (x0 x1 : Int) (v : V_) : Option (Int × V_) :=
  bd_ (fX11_knownFast x0 v) fun q1 =>
  if (q1.2 q1.1 4) = 0 then (
    bd_ (fX11_isRegister x1 q1.2) fun q4 =>
    if q4.1 = 0 then (
      if x1 < 8 then (
        some (0, q4.2))
      else (
        if 16 ≤ x1 then (
          some (0, q4.2))
        else (
          ck_ (0 ≤ wr_ (x1 - 8) ∧ wr_ (x1 - 8) < 8) (
          some (q4.2 (q1.1 + 2) (wr_ (x1 - 8)), q4.2)))))
    else (
      ck_ (0 ≤ x1 ∧ x1 < 12) (
      some (q4.2 (q1.1 + 1) x1, q4.2))))
  else (
    some (0, q1.2))
theorem cX11_left_ok (l : Launch) {E : En_} {sz : Int} (hC : Cl_ E.2.2.2.2.2 sz) (hG : Pg_ E.2.2.2.2.2) {x0 x1 : Int} {v : V_} {out : Int × V_} (T0 : (E.2.2.2.2.2 x0 ∧ ty_ x0 = 11 ∧ ln_ x0 = 0)) (h : fX11_left x0 x1 v = some out) : Met l yX11_left [.code yX11_left cX11_left 3 (some FieldType.int)] (rm_ 7 163) (Pc_ E sz v [(2, x0), (0, x1)]) (Qc_ E sz 0 out.1 out.2) 0 0 (fun q => E.1 < q) := by
  refine met_G0 RX11 (by decide +kernel) rfl (Nat.le_of_ble_eq_true rfl) ?_
  intro p e s m args below meth c C hr hlk
  rw [fX11_left] at h
  refine g_aload_n C (f := 0) dX11_left_0 0 rfl ?_
  obtain ⟨q1, eq1, h⟩ := bd_e h
  refine g_cV C [] (cX11_knownFast_ok l hC hG T0 eq1) okX11 T0.2.1 (rg_ hC T0.1) km_RX11_313 cv_X11_knownFast rfl (by decide) rfl rfl (Nat.le_of_ble_eq_true rfl) dX11_left_1 ?_
  have F2 := rX11_knownFast_ok hC hG T0 eq1
  refine g_astore_n C (f := 2) (ls' := [(2, (2, q1.1)), (0, (2, x0)), (1, (0, x1))]) dX11_left_4 (by decide) rfl ?_
  refine g_aload_n C (f := 2) dX11_left_5 0 rfl ?_
  refine g_getf C (k := 4) (kd := 0) okX6 (by decide) kf_RX11_182 dX11_left_6 (rg_ hC F2.1) F2.2.1 rfl ?_
  refine g_if_eq C 14 dX11_left_9 rfl (fun c3 => ?_) (fun c3 => ?_)
  · replace h := if_t h c3
    refine g_iload_n C (f := 1) dX11_left_14 2 rfl ?_
    obtain ⟨q4, eq4, h⟩ := bd_e h
    refine g_cS C [(0, x1)] (cX11_isRegister_ok l hC eq4) km_RX11_96 cs_X11_isRegister rfl (by decide) rfl rfl (Nat.le_of_ble_eq_true rfl) dX11_left_15 ?_
    refine g_if_eq C 28 dX11_left_18 rfl (fun c5 => ?_) (fun c5 => ?_)
    · replace h := if_t h c5
      refine g_iload_n C (f := 1) dX11_left_28 2 rfl ?_
      refine g_bipush C (n := 8) dX11_left_29 (by decide) ?_
      refine g_icmp_lt C 52 dX11_left_31 rfl (fun c6 => ?_) (fun c6 => ?_)
      · replace h := if_t h c6
        refine g_iconst C (n := 0) dX11_left_52 (by decide) ?_
        cases h
        exact g_iret C dX11_left_53 hr hlk
      · replace h := if_f h c6
        refine g_iload_n C (f := 1) dX11_left_34 2 rfl ?_
        refine g_bipush C (n := 16) dX11_left_35 (by decide) ?_
        refine g_icmp_ge C 52 dX11_left_37 rfl (fun c7 => ?_) (fun c7 => ?_)
        · replace h := if_t h c7
          refine g_iconst C (n := 0) dX11_left_52 (by decide) ?_
          cases h
          exact g_iret C dX11_left_53 hr hlk
        · replace h := if_f h c7
          refine g_aload_n C (f := 2) dX11_left_40 0 rfl ?_
          have F8 := fX6_1 hC F2.1 F2.2.1
          refine g_getR C (k := 1) (o := 2) okX6 (by decide) kf_RX11_188 dX11_left_41 hC F2.1 F2.2.1 rfl rfl ?_
          refine g_iload_n C (f := 1) dX11_left_44 2 rfl ?_
          refine g_bipush C (n := 8) dX11_left_45 (by decide) ?_
          refine g_isub C dX11_left_47 ?_
          obtain ⟨c9, h⟩ := ck_e h
          refine g_iald C 8 dX11_left_48 (rg_ hC F8.1) F8.2.1 F8.2.2 c9 ?_
          refine g_goto C 53 dX11_left_49 rfl ?_
          cases h
          exact g_iret C dX11_left_53 hr hlk
    · replace h := if_f h c5
      refine g_aload_n C (f := 2) dX11_left_21 0 rfl ?_
      have F10 := fX6_0 hC F2.1 F2.2.1
      refine g_getR C (k := 0) (o := 1) okX6 (by decide) kf_RX11_185 dX11_left_22 hC F2.1 F2.2.1 rfl rfl ?_
      refine g_iload_n C (f := 1) dX11_left_25 2 rfl ?_
      obtain ⟨c11, h⟩ := ck_e h
      refine g_iald C 12 dX11_left_26 (rg_ hC F10.1) F10.2.1 F10.2.2 c11 ?_
      cases h
      exact g_iret C dX11_left_27 hr hlk
  · replace h := if_f h c3
    refine g_iconst C (n := 0) dX11_left_12 (by decide) ?_
    cases h
    exact g_iret C dX11_left_13 hr hlk
