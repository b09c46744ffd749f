theorem dX12_growsAhead_0 : decode cX12_growsAhead 0 = .ok (.aload_n 0, 1) := by decide +kernel
theorem dX12_growsAhead_1 : decode cX12_growsAhead 1 = .ok (.getfield 112, 3) := by decide +kernel
theorem dX12_growsAhead_4 : decode cX12_growsAhead 4 = .ok (.iconst 4, 1) := by decide +kernel
theorem dX12_growsAhead_5 : decode cX12_growsAhead 5 = .ok (.aload_n 0, 1) := by decide +kernel
theorem dX12_growsAhead_6 : decode cX12_growsAhead 6 = .ok (.getfield 402, 3) := by decide +kernel
theorem dX12_growsAhead_9 : decode cX12_growsAhead 9 = .ok (.imul, 1) := by decide +kernel
theorem dX12_growsAhead_10 : decode cX12_growsAhead 10 = .ok (.iaload, 1) := by decide +kernel
theorem dX12_growsAhead_11 : decode cX12_growsAhead 11 = .ok (.istore_n 1, 1) := by decide +kernel
theorem dX12_growsAhead_12 : decode cX12_growsAhead 12 = .ok (.iconst (-1), 1) := by decide +kernel
theorem dX12_growsAhead_13 : decode cX12_growsAhead 13 = .ok (.istore_n 2, 1) := by decide +kernel
theorem dX12_growsAhead_14 : decode cX12_growsAhead 14 = .ok (.iconst 0, 1) := by decide +kernel
theorem dX12_growsAhead_15 : decode cX12_growsAhead 15 = .ok (.istore_n 3, 1) := by decide +kernel
theorem dX12_growsAhead_16 : decode cX12_growsAhead 16 = .ok (.iload_n 3, 1) := by decide +kernel
theorem dX12_growsAhead_17 : decode cX12_growsAhead 17 = .ok (.bipush 16, 2) := by decide +kernel
theorem dX12_growsAhead_19 : decode cX12_growsAhead 19 = .ok (.if_icmp .ge 79, 3) := by decide +kernel
theorem dX12_growsAhead_22 : decode cX12_growsAhead 22 = .ok (.iload_n 3, 1) := by decide +kernel
theorem dX12_growsAhead_23 : decode cX12_growsAhead 23 = .ok (.iconst 2, 1) := by decide +kernel
theorem dX12_growsAhead_24 : decode cX12_growsAhead 24 = .ok (.idiv, 1) := by decide +kernel
theorem dX12_growsAhead_25 : decode cX12_growsAhead 25 = .ok (.istore 4, 2) := by decide +kernel
theorem dX12_growsAhead_27 : decode cX12_growsAhead 27 = .ok (.aload_n 0, 1) := by decide +kernel
theorem dX12_growsAhead_28 : decode cX12_growsAhead 28 = .ok (.iload 4, 2) := by decide +kernel
theorem dX12_growsAhead_30 : decode cX12_growsAhead 30 = .ok (.invokevirtual 415, 3) := by decide +kernel
theorem dX12_growsAhead_33 : decode cX12_growsAhead 33 = .ok (.ifCond .eq 59, 3) := by decide +kernel
theorem dX12_growsAhead_36 : decode cX12_growsAhead 36 = .ok (.iload_n 3, 1) := by decide +kernel
theorem dX12_growsAhead_37 : decode cX12_growsAhead 37 = .ok (.iconst 2, 1) := by decide +kernel
theorem dX12_growsAhead_38 : decode cX12_growsAhead 38 = .ok (.irem, 1) := by decide +kernel
theorem dX12_growsAhead_39 : decode cX12_growsAhead 39 = .ok (.aload_n 0, 1) := by decide +kernel
theorem dX12_growsAhead_40 : decode cX12_growsAhead 40 = .ok (.iload 4, 2) := by decide +kernel
theorem dX12_growsAhead_42 : decode cX12_growsAhead 42 = .ok (.invokevirtual 393, 3) := by decide +kernel
theorem dX12_growsAhead_45 : decode cX12_growsAhead 45 = .ok (.if_icmp .ge 47, 3) := by decide +kernel
theorem dX12_growsAhead_48 : decode cX12_growsAhead 48 = .ok (.aload_n 0, 1) := by decide +kernel
theorem dX12_growsAhead_49 : decode cX12_growsAhead 49 = .ok (.iload 4, 2) := by decide +kernel
theorem dX12_growsAhead_51 : decode cX12_growsAhead 51 = .ok (.iload_n 3, 1) := by decide +kernel
theorem dX12_growsAhead_52 : decode cX12_growsAhead 52 = .ok (.iconst 2, 1) := by decide +kernel
theorem dX12_growsAhead_53 : decode cX12_growsAhead 53 = .ok (.irem, 1) := by decide +kernel
theorem dX12_growsAhead_54 : decode cX12_growsAhead 54 = .ok (.invokevirtual 378, 3) := by decide +kernel
theorem dX12_growsAhead_57 : decode cX12_growsAhead 57 = .ok (.iload_n 1, 1) := by decide +kernel
theorem dX12_growsAhead_58 : decode cX12_growsAhead 58 = .ok (.if_icmp .eq 6, 3) := by decide +kernel
theorem dX12_growsAhead_61 : decode cX12_growsAhead 61 = .ok (.goto 31, 3) := by decide +kernel
theorem dX12_growsAhead_64 : decode cX12_growsAhead 64 = .ok (.iload_n 2, 1) := by decide +kernel
theorem dX12_growsAhead_65 : decode cX12_growsAhead 65 = .ok (.ifCond .lt 25, 3) := by decide +kernel
theorem dX12_growsAhead_68 : decode cX12_growsAhead 68 = .ok (.aload_n 0, 1) := by decide +kernel
theorem dX12_growsAhead_69 : decode cX12_growsAhead 69 = .ok (.iload 4, 2) := by decide +kernel
theorem dX12_growsAhead_71 : decode cX12_growsAhead 71 = .ok (.iload_n 3, 1) := by decide +kernel
theorem dX12_growsAhead_72 : decode cX12_growsAhead 72 = .ok (.iconst 2, 1) := by decide +kernel
theorem dX12_growsAhead_73 : decode cX12_growsAhead 73 = .ok (.irem, 1) := by decide +kernel
theorem dX12_growsAhead_74 : decode cX12_growsAhead 74 = .ok (.invokevirtual 399, 3) := by decide +kernel
theorem dX12_growsAhead_77 : decode cX12_growsAhead 77 = .ok (.aload_n 0, 1) := by decide +kernel
theorem dX12_growsAhead_78 : decode cX12_growsAhead 78 = .ok (.iload_n 2, 1) := by decide +kernel
theorem dX12_growsAhead_79 : decode cX12_growsAhead 79 = .ok (.iconst 2, 1) := by decide +kernel
theorem dX12_growsAhead_80 : decode cX12_growsAhead 80 = .ok (.idiv, 1) := by decide +kernel
theorem dX12_growsAhead_81 : decode cX12_growsAhead 81 = .ok (.iload_n 2, 1) := by decide +kernel
theorem dX12_growsAhead_82 : decode cX12_growsAhead 82 = .ok (.iconst 2, 1) := by decide +kernel
theorem dX12_growsAhead_83 : decode cX12_growsAhead 83 = .ok (.irem, 1) := by decide +kernel
theorem dX12_growsAhead_84 : decode cX12_growsAhead 84 = .ok (.invokevirtual 399, 3) := by decide +kernel
theorem dX12_growsAhead_87 : decode cX12_growsAhead 87 = .ok (.if_icmp .le 5, 3) := by decide +kernel
theorem dX12_growsAhead_90 : decode cX12_growsAhead 90 = .ok (.iload_n 3, 1) := by decide +kernel
theorem dX12_growsAhead_91 : decode cX12_growsAhead 91 = .ok (.istore_n 2, 1) := by decide +kernel
theorem dX12_growsAhead_92 : decode cX12_growsAhead 92 = .ok (.iinc 3 1, 3) := by decide +kernel
theorem dX12_growsAhead_95 : decode cX12_growsAhead 95 = .ok (.goto (-79), 3) := by decide +kernel
theorem dX12_growsAhead_98 : decode cX12_growsAhead 98 = .ok (.iload_n 2, 1) := by decide +kernel
theorem dX12_growsAhead_99 : decode cX12_growsAhead 99 = .ok (.ifCond .lt 27, 3) := by decide +kernel
theorem dX12_growsAhead_102 : decode cX12_growsAhead 102 = .ok (.aload_n 0, 1) := by decide +kernel
theorem dX12_growsAhead_103 : decode cX12_growsAhead 103 = .ok (.getfield 106, 3) := by decide +kernel
theorem dX12_growsAhead_106 : decode cX12_growsAhead 106 = .ok (.iload_n 2, 1) := by decide +kernel
theorem dX12_growsAhead_107 : decode cX12_growsAhead 107 = .ok (.iconst 2, 1) := by decide +kernel
theorem dX12_growsAhead_108 : decode cX12_growsAhead 108 = .ok (.idiv, 1) := by decide +kernel
theorem dX12_growsAhead_109 : decode cX12_growsAhead 109 = .ok (.iaload, 1) := by decide +kernel
theorem dX12_growsAhead_110 : decode cX12_growsAhead 110 = .ok (.ifCond .ge 16, 3) := by decide +kernel
theorem dX12_growsAhead_113 : decode cX12_growsAhead 113 = .ok (.aload_n 0, 1) := by decide +kernel
theorem dX12_growsAhead_114 : decode cX12_growsAhead 114 = .ok (.iload_n 2, 1) := by decide +kernel
theorem dX12_growsAhead_115 : decode cX12_growsAhead 115 = .ok (.iconst 2, 1) := by decide +kernel
theorem dX12_growsAhead_116 : decode cX12_growsAhead 116 = .ok (.idiv, 1) := by decide +kernel
theorem dX12_growsAhead_117 : decode cX12_growsAhead 117 = .ok (.invokevirtual 405, 3) := by decide +kernel
theorem dX12_growsAhead_120 : decode cX12_growsAhead 120 = .ok (.iload_n 2, 1) := by decide +kernel
theorem dX12_growsAhead_121 : decode cX12_growsAhead 121 = .ok (.iconst 2, 1) := by decide +kernel
theorem dX12_growsAhead_122 : decode cX12_growsAhead 122 = .ok (.irem, 1) := by decide +kernel
theorem dX12_growsAhead_123 : decode cX12_growsAhead 123 = .ok (.if_icmp .eq 5, 3) := by decide +kernel
theorem dX12_growsAhead_126 : decode cX12_growsAhead 126 = .ok (.iconst 0, 1) := by decide +kernel
theorem dX12_growsAhead_127 : decode cX12_growsAhead 127 = .ok (.ireturn, 1) := by decide +kernel
theorem dX12_growsAhead_128 : decode cX12_growsAhead 128 = .ok (.aload_n 0, 1) := by decide +kernel
theorem dX12_growsAhead_129 : decode cX12_growsAhead 129 = .ok (.iconst 0, 1) := by decide +kernel
theorem dX12_growsAhead_130 : decode cX12_growsAhead 130 = .ok (.iload_n 2, 1) := by decide +kernel
theorem dX12_growsAhead_131 : decode cX12_growsAhead 131 = .ok (.iconst 2, 1) := by decide +kernel
theorem dX12_growsAhead_132 : decode cX12_growsAhead 132 = .ok (.idiv, 1) := by decide +kernel
theorem dX12_growsAhead_133 : decode cX12_growsAhead 133 = .ok (.invokevirtual 412, 3) := by decide +kernel
theorem dX12_growsAhead_136 : decode cX12_growsAhead 136 = .ok (.iconst 1, 1) := by decide +kernel
theorem dX12_growsAhead_137 : decode cX12_growsAhead 137 = .ok (.ireturn, 1) := by decide +kernel
def fX12_growsAhead_90 (k16 : Int → Int → Int → Int → V_ → Option (Int × V_)) (x0 x1 x3 : Int) (v : V_) : Option (Int × V_) :=
  lt_ (wr_ (x3 + 1)) fun y22 =>
  k16 x0 x1 x3 y22 v
def fX12_growsAhead_16 : Nat → Int → Int → Int → Int → V_ → Option (Int × V_)
  | 0, _, _, _, _, _ => none
  | n + 1, x0, x1, x2, x3, v =>
    if 16 ≤ x3 then (
      if x2 < 0 then (
        some (0, v))
      else (
        ck_ (0 ≤ wr_ (Int.tdiv x2 2) ∧ wr_ (Int.tdiv x2 2) < 8) (
        if 0 ≤ (v (x0 + 30) (wr_ (Int.tdiv x2 2))) then (
          some (0, v))
        else (
          bd_ (fX12_mostWay x0 (wr_ (Int.tdiv x2 2)) v) fun q9 =>
          if q9.1 = (Int.tmod x2 2) then (
            bd_ (fX12_joinsAt x0 0 (wr_ (Int.tdiv x2 2)) q9.2) fun q11 =>
            some (1, q11.2))
          else (
            some (0, q9.2))))))
    else (
      lt_ (wr_ (Int.tdiv x3 2)) fun y12 =>
      bd_ (fX12_isBlock x0 y12 v) fun q13 =>
      if q13.1 = 0 then (
        lt_ (wr_ (x3 + 1)) fun y15 =>
        (fX12_growsAhead_16 n) x0 x1 x2 y15 q13.2)
      else (
        bd_ (fX12_waysOf x0 y12 q13.2) fun q16 =>
        if q16.1 ≤ (Int.tmod x3 2) then (
          lt_ (wr_ (x3 + 1)) fun y18 =>
          (fX12_growsAhead_16 n) x0 x1 x2 y18 q16.2)
        else (
          bd_ (fX12_wayTo x0 y12 (Int.tmod x3 2) q16.2) fun q19 =>
          if q19.1 = x1 then (
            if x2 < 0 then (
              fX12_growsAhead_90 (fX12_growsAhead_16 n) x0 x1 x3 q19.2)
            else (
              bd_ (fX12_goneOf x0 y12 (Int.tmod x3 2) q19.2) fun q23 =>
              bd_ (fX12_goneOf x0 (wr_ (Int.tdiv x2 2)) (Int.tmod x2 2) q23.2) fun q24 =>
              if q23.1 ≤ q24.1 then (
                lt_ (wr_ (x3 + 1)) fun y26 =>
                (fX12_growsAhead_16 n) x0 x1 x2 y26 q24.2)
              else (
                fX12_growsAhead_90 (fX12_growsAhead_16 n) x0 x1 x3 q24.2)))
          else (
            lt_ (wr_ (x3 + 1)) fun y27 =>
            (fX12_growsAhead_16 n) x0 x1 x2 y27 q19.2))))
def fX12_growsAhead (x0 : Int) (v : V_) : Option (Int × V_) :=
  ck_ (0 ≤ wr_ (4 * (v x0 52)) ∧ wr_ (4 * (v x0 52)) < 32) (
  lt_ (v (x0 + 32) (wr_ (4 * (v x0 52)))) fun y3 =>
  fX12_growsAhead_16 fu_ x0 y3 (-1) 0 v)
section
variable {E : En_} {p : Program} {l : Launch} {e : Env} {s : State} {m : MethodId} {args : Array Value} {below : List Frame} {meth : Method} {c : Code} {sz : Int}
theorem tX12_growsAhead_90 (C : MC_ E p s m c cX12_growsAhead 5 RX12) (hr : meth.sig.returnType = (some FieldType.boolean)) (hlk : meth.locks = false) (hC : Cl_ E.2.2.2.2.2 sz) {out : Int × V_} (k16 : Int → Int → Int → Int → V_ → Option (Int × V_)) (H_16 : ∀ (x0 x1 x2 x3 : Int) (v : V_), (E.2.2.2.2.2 x0 ∧ ty_ x0 = 12 ∧ ln_ x0 = 0) → k16 x0 x1 x2 x3 v = some out → G_ E p l e (rm_ 3 63) s m args below meth c 5 sz (Q_ E below args s sz sz 0 out.1 out.2) 16 [(0, (2, x0)), (1, (0, x1)), (2, (0, x2)), (3, (0, x3))] [] v sz) (x0 x1 x3 : Int) (v : V_) (T0 : (E.2.2.2.2.2 x0 ∧ ty_ x0 = 12 ∧ ln_ x0 = 0)) (h : fX12_growsAhead_90 k16 x0 x1 x3 v = some out) : G_ E p l e (rm_ 3 63) s m args below meth c 5 sz (Q_ E below args s sz sz 0 out.1 out.2) 90 [(0, (2, x0)), (1, (0, x1)), (3, (0, x3))] [] v sz := by
  rw [fX12_growsAhead_90] at h
  refine g_iload_n C (f := 3) dX12_growsAhead_90 2 rfl ?_
  refine g_istore_n C (f := 2) (ls' := [(2, (0, x3)), (0, (2, x0)), (1, (0, x1)), (3, (0, x3))]) dX12_growsAhead_91 (by decide) rfl ?_
  obtain ⟨y22, ey22, h⟩ := lt_e h
  refine g_iincx C (ls' := [(3, (0, y22)), (2, (0, x3)), (0, (2, x0)), (1, (0, x1))]) ey22 dX12_growsAhead_92 3 rfl (by decide) (by decide) rfl ?_
  refine g_goto C 16 dX12_growsAhead_95 rfl ?_
  refine g_sub [2, 3, 1, 0] rfl rfl ?_
  exact H_16 _ _ _ _ _ T0 h
theorem tX12_growsAhead_16 (C : MC_ E p s m c cX12_growsAhead 5 RX12) (hr : meth.sig.returnType = (some FieldType.boolean)) (hlk : meth.locks = false) (hC : Cl_ E.2.2.2.2.2 sz) {out : Int × V_} : ∀ (n : Nat) (x0 x1 x2 x3 : Int) (v : V_), (E.2.2.2.2.2 x0 ∧ ty_ x0 = 12 ∧ ln_ x0 = 0) → fX12_growsAhead_16 n x0 x1 x2 x3 v = some out → G_ E p l e (rm_ 3 63) s m args below meth c 5 sz (Q_ E below args s sz sz 0 out.1 out.2) 16 [(0, (2, x0)), (1, (0, x1)), (2, (0, x2)), (3, (0, x3))] [] v sz := by
  intro n
  induction n with
  | zero =>
    intro x0 x1 x2 x3 v T0 h
    cases h
  | succ n H_16 =>
    intro x0 x1 x2 x3 v T0 h
    rw [fX12_growsAhead_16] at h
    refine g_iload_n C (f := 3) dX12_growsAhead_16 3 rfl ?_
    refine g_bipush C (n := 16) dX12_growsAhead_17 (by decide) ?_
    refine g_icmp_ge C 98 dX12_growsAhead_19 rfl (fun c4 => ?_) (fun c4 => ?_)
    · replace h := if_t h c4
      refine g_iload_n C (f := 2) dX12_growsAhead_98 2 rfl ?_
      refine g_if_lt C 126 dX12_growsAhead_99 rfl (fun c5 => ?_) (fun c5 => ?_)
      · replace h := if_t h c5
        refine g_iconst C (n := 0) dX12_growsAhead_126 (by decide) ?_
        cases h
        exact g_zret C dX12_growsAhead_127 hr hlk (Or.inl rfl)
      · replace h := if_f h c5
        refine g_aload_n C (f := 0) dX12_growsAhead_102 0 rfl ?_
        have F6 := fX12_48 hC T0.1 T0.2.1
        refine g_getR C (k := 48) (o := 30) okX12 (by decide) kf_RX12_106 dX12_growsAhead_103 hC T0.1 T0.2.1 rfl rfl ?_
        refine g_iload_n C (f := 2) dX12_growsAhead_106 2 rfl ?_
        refine g_iconst C (n := 2) dX12_growsAhead_107 (by decide) ?_
        refine g_idiv C dX12_growsAhead_108 (by decide) ?_
        obtain ⟨c7, h⟩ := ck_e h
        refine g_iald C 8 dX12_growsAhead_109 (rg_ hC F6.1) F6.2.1 F6.2.2 c7 ?_
        refine g_if_ge C 126 dX12_growsAhead_110 rfl (fun c8 => ?_) (fun c8 => ?_)
        · replace h := if_t h c8
          refine g_iconst C (n := 0) dX12_growsAhead_126 (by decide) ?_
          cases h
          exact g_zret C dX12_growsAhead_127 hr hlk (Or.inl rfl)
        · replace h := if_f h c8
          refine g_aload_n C (f := 0) dX12_growsAhead_113 0 rfl ?_
          refine g_iload_n C (f := 2) dX12_growsAhead_114 2 rfl ?_
          refine g_iconst C (n := 2) dX12_growsAhead_115 (by decide) ?_
          refine g_idiv C dX12_growsAhead_116 (by decide) ?_
          obtain ⟨q9, eq9, h⟩ := bd_e h
          refine g_cV C [(0, wr_ (Int.tdiv x2 2))] (cX12_mostWay_ok l hC T0 eq9) okX12 T0.2.1 (rg_ hC T0.1) km_RX12_405 cv_X12_mostWay rfl (by decide) rfl rfl (Nat.le_of_ble_eq_true rfl) dX12_growsAhead_117 ?_
          refine g_iload_n C (f := 2) dX12_growsAhead_120 2 rfl ?_
          refine g_iconst C (n := 2) dX12_growsAhead_121 (by decide) ?_
          refine g_irem C dX12_growsAhead_122 (by decide) ?_
          refine g_icmp_eq C 128 dX12_growsAhead_123 rfl (fun c10 => ?_) (fun c10 => ?_)
          · replace h := if_t h c10
            refine g_aload_n C (f := 0) dX12_growsAhead_128 0 rfl ?_
            refine g_iconst C (n := 0) dX12_growsAhead_129 (by decide) ?_
            refine g_iload_n C (f := 2) dX12_growsAhead_130 2 rfl ?_
            refine g_iconst C (n := 2) dX12_growsAhead_131 (by decide) ?_
            refine g_idiv C dX12_growsAhead_132 (by decide) ?_
            obtain ⟨q11, eq11, h⟩ := bd_e h
            refine g_cV C [(0, 0), (0, wr_ (Int.tdiv x2 2))] (cX12_joinsAt_ok l hC T0 eq11) okX12 T0.2.1 (rg_ hC T0.1) km_RX12_412 cv_X12_joinsAt rfl (by decide) rfl rfl (Nat.le_of_ble_eq_true rfl) dX12_growsAhead_133 ?_
            refine g_iconst C (n := 1) dX12_growsAhead_136 (by decide) ?_
            cases h
            exact g_zret C dX12_growsAhead_137 hr hlk (Or.inr rfl)
          · replace h := if_f h c10
            refine g_iconst C (n := 0) dX12_growsAhead_126 (by decide) ?_
            cases h
            exact g_zret C dX12_growsAhead_127 hr hlk (Or.inl rfl)
    · replace h := if_f h c4
      refine g_iload_n C (f := 3) dX12_growsAhead_22 3 rfl ?_
      refine g_iconst C (n := 2) dX12_growsAhead_23 (by decide) ?_
      refine g_idiv C dX12_growsAhead_24 (by decide) ?_
      obtain ⟨y12, ey12, h⟩ := lt_e h
      refine g_set C ey12 ?_
      refine g_istore C (i := 4) (ls' := [(4, (0, y12)), (0, (2, x0)), (1, (0, x1)), (2, (0, x2)), (3, (0, x3))]) dX12_growsAhead_25 (by decide) rfl ?_
      refine g_aload_n C (f := 0) dX12_growsAhead_27 1 rfl ?_
      refine g_iload C (i := 4) dX12_growsAhead_28 0 rfl ?_
      obtain ⟨q13, eq13, h⟩ := bd_e h
      refine g_cV C [(0, y12)] (cX12_isBlock_ok l hC T0 eq13) okX12 T0.2.1 (rg_ hC T0.1) km_RX12_415 cv_X12_isBlock rfl (by decide) rfl rfl (Nat.le_of_ble_eq_true rfl) dX12_growsAhead_30 ?_
      refine g_if_eq C 92 dX12_growsAhead_33 rfl (fun c14 => ?_) (fun c14 => ?_)
      · replace h := if_t h c14
        obtain ⟨y15, ey15, h⟩ := lt_e h
        refine g_iincx C (ls' := [(3, (0, y15)), (4, (0, y12)), (0, (2, x0)), (1, (0, x1)), (2, (0, x2))]) ey15 dX12_growsAhead_92 4 rfl (by decide) (by decide) rfl ?_
        refine g_goto C 16 dX12_growsAhead_95 rfl ?_
        refine g_sub [2, 3, 4, 0] rfl rfl ?_
        exact H_16 _ _ _ _ _ T0 h
      · replace h := if_f h c14
        refine g_iload_n C (f := 3) dX12_growsAhead_36 4 rfl ?_
        refine g_iconst C (n := 2) dX12_growsAhead_37 (by decide) ?_
        refine g_irem C dX12_growsAhead_38 (by decide) ?_
        refine g_aload_n C (f := 0) dX12_growsAhead_39 1 rfl ?_
        refine g_iload C (i := 4) dX12_growsAhead_40 0 rfl ?_
        obtain ⟨q16, eq16, h⟩ := bd_e h
        refine g_cV C [(0, y12)] (cX12_waysOf_ok l hC T0 eq16) okX12 T0.2.1 (rg_ hC T0.1) km_RX12_393 cv_X12_waysOf rfl (by decide) rfl rfl (Nat.le_of_ble_eq_true rfl) dX12_growsAhead_42 ?_
        refine g_icmp_ge C 92 dX12_growsAhead_45 rfl (fun c17 => ?_) (fun c17 => ?_)
        · replace h := if_t h c17
          obtain ⟨y18, ey18, h⟩ := lt_e h
          refine g_iincx C (ls' := [(3, (0, y18)), (4, (0, y12)), (0, (2, x0)), (1, (0, x1)), (2, (0, x2))]) ey18 dX12_growsAhead_92 4 rfl (by decide) (by decide) rfl ?_
          refine g_goto C 16 dX12_growsAhead_95 rfl ?_
          refine g_sub [2, 3, 4, 0] rfl rfl ?_
          exact H_16 _ _ _ _ _ T0 h
        · replace h := if_f h c17
          refine g_aload_n C (f := 0) dX12_growsAhead_48 1 rfl ?_
          refine g_iload C (i := 4) dX12_growsAhead_49 0 rfl ?_
          refine g_iload_n C (f := 3) dX12_growsAhead_51 4 rfl ?_
          refine g_iconst C (n := 2) dX12_growsAhead_52 (by decide) ?_
          refine g_irem C dX12_growsAhead_53 (by decide) ?_
          obtain ⟨q19, eq19, h⟩ := bd_e h
          refine g_cV C [(0, y12), (0, Int.tmod x3 2)] (cX12_wayTo_ok l hC T0 eq19) okX12 T0.2.1 (rg_ hC T0.1) km_RX12_378 cv_X12_wayTo rfl (by decide) rfl rfl (Nat.le_of_ble_eq_true rfl) dX12_growsAhead_54 ?_
          refine g_iload_n C (f := 1) dX12_growsAhead_57 2 rfl ?_
          refine g_icmp_eq C 64 dX12_growsAhead_58 rfl (fun c20 => ?_) (fun c20 => ?_)
          · replace h := if_t h c20
            refine g_iload_n C (f := 2) dX12_growsAhead_64 3 rfl ?_
            refine g_if_lt C 90 dX12_growsAhead_65 rfl (fun c21 => ?_) (fun c21 => ?_)
            · replace h := if_t h c21
              refine g_sub [1, 2, 4] rfl rfl ?_
              exact tX12_growsAhead_90 C hr hlk hC _ H_16 _ _ _ _ T0 h
            · replace h := if_f h c21
              refine g_aload_n C (f := 0) dX12_growsAhead_68 1 rfl ?_
              refine g_iload C (i := 4) dX12_growsAhead_69 0 rfl ?_
              refine g_iload_n C (f := 3) dX12_growsAhead_71 4 rfl ?_
              refine g_iconst C (n := 2) dX12_growsAhead_72 (by decide) ?_
              refine g_irem C dX12_growsAhead_73 (by decide) ?_
              obtain ⟨q23, eq23, h⟩ := bd_e h
              refine g_cV C [(0, y12), (0, Int.tmod x3 2)] (cX12_goneOf_ok l hC T0 eq23) okX12 T0.2.1 (rg_ hC T0.1) km_RX12_399 cv_X12_goneOf rfl (by decide) rfl rfl (Nat.le_of_ble_eq_true rfl) dX12_growsAhead_74 ?_
              refine g_aload_n C (f := 0) dX12_growsAhead_77 1 rfl ?_
              refine g_iload_n C (f := 2) dX12_growsAhead_78 3 rfl ?_
              refine g_iconst C (n := 2) dX12_growsAhead_79 (by decide) ?_
              refine g_idiv C dX12_growsAhead_80 (by decide) ?_
              refine g_iload_n C (f := 2) dX12_growsAhead_81 3 rfl ?_
              refine g_iconst C (n := 2) dX12_growsAhead_82 (by decide) ?_
              refine g_irem C dX12_growsAhead_83 (by decide) ?_
              obtain ⟨q24, eq24, h⟩ := bd_e h
              refine g_cV C [(0, wr_ (Int.tdiv x2 2)), (0, Int.tmod x2 2)] (cX12_goneOf_ok l hC T0 eq24) okX12 T0.2.1 (rg_ hC T0.1) km_RX12_399 cv_X12_goneOf rfl (by decide) rfl rfl (Nat.le_of_ble_eq_true rfl) dX12_growsAhead_84 ?_
              refine g_icmp_le C 92 dX12_growsAhead_87 rfl (fun c25 => ?_) (fun c25 => ?_)
              · replace h := if_t h c25
                obtain ⟨y26, ey26, h⟩ := lt_e h
                refine g_iincx C (ls' := [(3, (0, y26)), (4, (0, y12)), (0, (2, x0)), (1, (0, x1)), (2, (0, x2))]) ey26 dX12_growsAhead_92 4 rfl (by decide) (by decide) rfl ?_
                refine g_goto C 16 dX12_growsAhead_95 rfl ?_
                refine g_sub [2, 3, 4, 0] rfl rfl ?_
                exact H_16 _ _ _ _ _ T0 h
              · replace h := if_f h c25
                refine g_sub [1, 2, 4] rfl rfl ?_
                exact tX12_growsAhead_90 C hr hlk hC _ H_16 _ _ _ _ T0 h
          · replace h := if_f h c20
            refine g_goto C 92 dX12_growsAhead_61 rfl ?_
            obtain ⟨y27, ey27, h⟩ := lt_e h
            refine g_iincx C (ls' := [(3, (0, y27)), (4, (0, y12)), (0, (2, x0)), (1, (0, x1)), (2, (0, x2))]) ey27 dX12_growsAhead_92 4 rfl (by decide) (by decide) rfl ?_
            refine g_goto C 16 dX12_growsAhead_95 rfl ?_
            refine g_sub [2, 3, 4, 0] rfl rfl ?_
            exact H_16 _ _ _ _ _ T0 h
end
theorem cX12_growsAhead_ok (l : Launch) {E : En_} {sz : Int} (hC : Cl_ E.2.2.2.2.2 sz) {x0 : Int} {v : V_} {out : Int × V_} (T0 : (E.2.2.2.2.2 x0 ∧ ty_ x0 = 12 ∧ ln_ x0 = 0)) (h : fX12_growsAhead x0 v = some out) : Met l yX12_growsAhead [.code yX12_growsAhead cX12_growsAhead 5 (some FieldType.boolean)] (rm_ 3 63) (Pc_ E sz v [(2, x0)]) (Qc_ E sz 0 out.1 out.2) 0 0 (fun q => E.1 < q) := by
  refine met_G0 RX12 (by decide +kernel) rfl (Nat.le_of_ble_eq_true rfl) ?_
  intro p e s m args below meth c C hr hlk
  rw [fX12_growsAhead] at h
  refine g_aload_n C (f := 0) dX12_growsAhead_0 0 rfl ?_
  have F1 := fX12_50 hC T0.1 T0.2.1
  refine g_getR C (k := 50) (o := 32) okX12 (by decide) kf_RX12_112 dX12_growsAhead_1 hC T0.1 T0.2.1 rfl rfl ?_
  refine g_iconst C (n := 4) dX12_growsAhead_4 (by decide) ?_
  refine g_aload_n C (f := 0) dX12_growsAhead_5 0 rfl ?_
  refine g_getf C (k := 52) (kd := 0) okX12 (by decide) kf_RX12_402 dX12_growsAhead_6 (rg_ hC T0.1) T0.2.1 rfl ?_
  refine g_imul C dX12_growsAhead_9 ?_
  obtain ⟨c2, h⟩ := ck_e h
  refine g_iald C 32 dX12_growsAhead_10 (rg_ hC F1.1) F1.2.1 F1.2.2 c2 ?_
  obtain ⟨y3, ey3, h⟩ := lt_e h
  refine g_set C ey3 ?_
  refine g_istore_n C (f := 1) (ls' := [(1, (0, y3)), (0, (2, x0))]) dX12_growsAhead_11 (by decide) rfl ?_
  refine g_iconst C (n := (-1)) dX12_growsAhead_12 (by decide) ?_
  refine g_istore_n C (f := 2) (ls' := [(2, (0, (-1))), (1, (0, y3)), (0, (2, x0))]) dX12_growsAhead_13 (by decide) rfl ?_
  refine g_iconst C (n := 0) dX12_growsAhead_14 (by decide) ?_
  refine g_istore_n C (f := 3) (ls' := [(3, (0, 0)), (2, (0, (-1))), (1, (0, y3)), (0, (2, x0))]) dX12_growsAhead_15 (by decide) rfl ?_
  refine g_sub [3, 2, 1, 0] rfl rfl ?_
  exact tX12_growsAhead_16 C hr hlk hC _ _ _ _ _ _ T0 h
theorem dX12_isOftenest_0 : decode cX12_isOftenest 0 = .ok (.aload_n 0, 1) := by decide +kernel
theorem dX12_isOftenest_1 : decode cX12_isOftenest 1 = .ok (.iload_n 1, 1) := by decide +kernel
theorem dX12_isOftenest_2 : decode cX12_isOftenest 2 = .ok (.iload_n 2, 1) := by decide +kernel
theorem dX12_isOftenest_3 : decode cX12_isOftenest 3 = .ok (.invokevirtual 378, 3) := by decide +kernel
theorem dX12_isOftenest_6 : decode cX12_isOftenest 6 = .ok (.istore_n 3, 1) := by decide +kernel
theorem dX12_isOftenest_7 : decode cX12_isOftenest 7 = .ok (.iconst 0, 1) := by decide +kernel
theorem dX12_isOftenest_8 : decode cX12_isOftenest 8 = .ok (.istore 4, 2) := by decide +kernel
theorem dX12_isOftenest_10 : decode cX12_isOftenest 10 = .ok (.iload 4, 2) := by decide +kernel
theorem dX12_isOftenest_12 : decode cX12_isOftenest 12 = .ok (.aload_n 0, 1) := by decide +kernel
theorem dX12_isOftenest_13 : decode cX12_isOftenest 13 = .ok (.getfield 43, 3) := by decide +kernel
theorem dX12_isOftenest_16 : decode cX12_isOftenest 16 = .ok (.aload_n 0, 1) := by decide +kernel
theorem dX12_isOftenest_17 : decode cX12_isOftenest 17 = .ok (.getfield 272, 3) := by decide +kernel
theorem dX12_isOftenest_20 : decode cX12_isOftenest 20 = .ok (.iaload, 1) := by decide +kernel
theorem dX12_isOftenest_21 : decode cX12_isOftenest 21 = .ok (.if_icmp .ge 60, 3) := by decide +kernel
theorem dX12_isOftenest_24 : decode cX12_isOftenest 24 = .ok (.iconst 0, 1) := by decide +kernel
theorem dX12_isOftenest_25 : decode cX12_isOftenest 25 = .ok (.istore 5, 2) := by decide +kernel
theorem dX12_isOftenest_27 : decode cX12_isOftenest 27 = .ok (.iload 5, 2) := by decide +kernel
theorem dX12_isOftenest_29 : decode cX12_isOftenest 29 = .ok (.aload_n 0, 1) := by decide +kernel
theorem dX12_isOftenest_30 : decode cX12_isOftenest 30 = .ok (.iload 4, 2) := by decide +kernel
theorem dX12_isOftenest_32 : decode cX12_isOftenest 32 = .ok (.invokevirtual 393, 3) := by decide +kernel
theorem dX12_isOftenest_35 : decode cX12_isOftenest 35 = .ok (.if_icmp .ge 40, 3) := by decide +kernel
theorem dX12_isOftenest_38 : decode cX12_isOftenest 38 = .ok (.aload_n 0, 1) := by decide +kernel
theorem dX12_isOftenest_39 : decode cX12_isOftenest 39 = .ok (.iload 4, 2) := by decide +kernel
theorem dX12_isOftenest_41 : decode cX12_isOftenest 41 = .ok (.iload 5, 2) := by decide +kernel
theorem dX12_isOftenest_43 : decode cX12_isOftenest 43 = .ok (.invokevirtual 378, 3) := by decide +kernel
theorem dX12_isOftenest_46 : decode cX12_isOftenest 46 = .ok (.iload_n 3, 1) := by decide +kernel
theorem dX12_isOftenest_47 : decode cX12_isOftenest 47 = .ok (.if_icmp .ne 22, 3) := by decide +kernel
theorem dX12_isOftenest_50 : decode cX12_isOftenest 50 = .ok (.aload_n 0, 1) := by decide +kernel
theorem dX12_isOftenest_51 : decode cX12_isOftenest 51 = .ok (.iload 4, 2) := by decide +kernel
theorem dX12_isOftenest_53 : decode cX12_isOftenest 53 = .ok (.iload 5, 2) := by decide +kernel
theorem dX12_isOftenest_55 : decode cX12_isOftenest 55 = .ok (.invokevirtual 399, 3) := by decide +kernel
theorem dX12_isOftenest_58 : decode cX12_isOftenest 58 = .ok (.aload_n 0, 1) := by decide +kernel
theorem dX12_isOftenest_59 : decode cX12_isOftenest 59 = .ok (.iload_n 1, 1) := by decide +kernel
theorem dX12_isOftenest_60 : decode cX12_isOftenest 60 = .ok (.iload_n 2, 1) := by decide +kernel
theorem dX12_isOftenest_61 : decode cX12_isOftenest 61 = .ok (.invokevirtual 399, 3) := by decide +kernel
theorem dX12_isOftenest_64 : decode cX12_isOftenest 64 = .ok (.if_icmp .le 5, 3) := by decide +kernel
theorem dX12_isOftenest_67 : decode cX12_isOftenest 67 = .ok (.iconst 0, 1) := by decide +kernel
theorem dX12_isOftenest_68 : decode cX12_isOftenest 68 = .ok (.ireturn, 1) := by decide +kernel
theorem dX12_isOftenest_69 : decode cX12_isOftenest 69 = .ok (.iinc 5 1, 3) := by decide +kernel
theorem dX12_isOftenest_72 : decode cX12_isOftenest 72 = .ok (.goto (-45), 3) := by decide +kernel
theorem dX12_isOftenest_75 : decode cX12_isOftenest 75 = .ok (.iinc 4 1, 3) := by decide +kernel
theorem dX12_isOftenest_78 : decode cX12_isOftenest 78 = .ok (.goto (-68), 3) := by decide +kernel
theorem dX12_isOftenest_81 : decode cX12_isOftenest 81 = .ok (.iconst 1, 1) := by decide +kernel
theorem dX12_isOftenest_82 : decode cX12_isOftenest 82 = .ok (.ireturn, 1) := by decide +kernel
def fX12_isOftenest_27 (k10 : Int → Int → Int → Int → Int → V_ → Option (Int × V_)) : Nat → Int → Int → Int → Int → Int → Int → V_ → Option (Int × V_)
  | 0, _, _, _, _, _, _, _ => none
  | n + 1, x0, x1, x2, x3, x4, x5, v =>
    bd_ (fX12_waysOf x0 x4 v) fun q5 =>
    if q5.1 ≤ x5 then (
      lt_ (wr_ (x4 + 1)) fun y7 =>
      k10 x0 x1 x2 x3 y7 q5.2)
    else (
      bd_ (fX12_wayTo x0 x4 x5 q5.2) fun q8 =>
      if q8.1 = x3 then (
        bd_ (fX12_goneOf x0 x4 x5 q8.2) fun q11 =>
        bd_ (fX12_goneOf x0 x1 x2 q11.2) fun q12 =>
        if q11.1 ≤ q12.1 then (
          lt_ (wr_ (x5 + 1)) fun y14 =>
          (fX12_isOftenest_27 k10 n) x0 x1 x2 x3 x4 y14 q12.2)
        else (
          some (0, q12.2)))
      else (
        lt_ (wr_ (x5 + 1)) fun y10 =>
        (fX12_isOftenest_27 k10 n) x0 x1 x2 x3 x4 y10 q8.2))
def fX12_isOftenest_10 : Nat → Int → Int → Int → Int → Int → V_ → Option (Int × V_)
  | 0, _, _, _, _, _, _ => none
  | n + 1, x0, x1, x2, x3, x4, v =>
    ck_ (0 ≤ v x0 18 ∧ v x0 18 < 2) (
    if (v (x0 + 9) (v x0 18)) ≤ x4 then (
      some (1, v))
    else (
      fX12_isOftenest_27 (fX12_isOftenest_10 n) fu_ x0 x1 x2 x3 x4 0 v))
def fX12_isOftenest (x0 x1 x2 : Int) (v : V_) : Option (Int × V_) :=
  bd_ (fX12_wayTo x0 x1 x2 v) fun q1 =>
  fX12_isOftenest_10 fu_ x0 x1 x2 q1.1 0 q1.2
section
variable {E : En_} {p : Program} {l : Launch} {e : Env} {s : State} {m : MethodId} {args : Array Value} {below : List Frame} {meth : Method} {c : Code} {sz : Int}
theorem tX12_isOftenest_27 (C : MC_ E p s m c cX12_isOftenest 6 RX12) (hr : meth.sig.returnType = (some FieldType.boolean)) (hlk : meth.locks = false) (hC : Cl_ E.2.2.2.2.2 sz) {out : Int × V_} (k10 : Int → Int → Int → Int → Int → V_ → Option (Int × V_)) (H_10 : ∀ (x0 x1 x2 x3 x4 : Int) (v : V_), (E.2.2.2.2.2 x0 ∧ ty_ x0 = 12 ∧ ln_ x0 = 0) → k10 x0 x1 x2 x3 x4 v = some out → G_ E p l e (rm_ 2 42) s m args below meth c 6 sz (Q_ E below args s sz sz 0 out.1 out.2) 10 [(0, (2, x0)), (1, (0, x1)), (2, (0, x2)), (3, (0, x3)), (4, (0, x4))] [] v sz) : ∀ (n : Nat) (x0 x1 x2 x3 x4 x5 : Int) (v : V_), (E.2.2.2.2.2 x0 ∧ ty_ x0 = 12 ∧ ln_ x0 = 0) → fX12_isOftenest_27 k10 n x0 x1 x2 x3 x4 x5 v = some out → G_ E p l e (rm_ 2 42) s m args below meth c 6 sz (Q_ E below args s sz sz 0 out.1 out.2) 27 [(0, (2, x0)), (1, (0, x1)), (2, (0, x2)), (3, (0, x3)), (4, (0, x4)), (5, (0, x5))] [] v sz := by
  intro n
  induction n with
  | zero =>
    intro x0 x1 x2 x3 x4 x5 v T0 h
    cases h
  | succ n H_27 =>
    intro x0 x1 x2 x3 x4 x5 v T0 h
    rw [fX12_isOftenest_27] at h
    refine g_iload C (i := 5) dX12_isOftenest_27 5 rfl ?_
    refine g_aload_n C (f := 0) dX12_isOftenest_29 0 rfl ?_
    refine g_iload C (i := 4) dX12_isOftenest_30 4 rfl ?_
    obtain ⟨q5, eq5, h⟩ := bd_e h
    refine g_cV C [(0, x4)] (cX12_waysOf_ok l hC T0 eq5) okX12 T0.2.1 (rg_ hC T0.1) km_RX12_393 cv_X12_waysOf rfl (by decide) rfl rfl (Nat.le_of_ble_eq_true rfl) dX12_isOftenest_32 ?_
    refine g_icmp_ge C 75 dX12_isOftenest_35 rfl (fun c6 => ?_) (fun c6 => ?_)
    · replace h := if_t h c6
      obtain ⟨y7, ey7, h⟩ := lt_e h
      refine g_iincx C (ls' := [(4, (0, y7)), (0, (2, x0)), (1, (0, x1)), (2, (0, x2)), (3, (0, x3)), (5, (0, x5))]) ey7 dX12_isOftenest_75 4 rfl (by decide) (by decide) rfl ?_
      refine g_goto C 10 dX12_isOftenest_78 rfl ?_
      refine g_sub [1, 2, 3, 4, 0] rfl rfl ?_
      exact H_10 _ _ _ _ _ _ T0 h
    · replace h := if_f h c6
      refine g_aload_n C (f := 0) dX12_isOftenest_38 0 rfl ?_
      refine g_iload C (i := 4) dX12_isOftenest_39 4 rfl ?_
      refine g_iload C (i := 5) dX12_isOftenest_41 5 rfl ?_
      obtain ⟨q8, eq8, h⟩ := bd_e h
      refine g_cV C [(0, x4), (0, x5)] (cX12_wayTo_ok l hC T0 eq8) okX12 T0.2.1 (rg_ hC T0.1) km_RX12_378 cv_X12_wayTo rfl (by decide) rfl rfl (Nat.le_of_ble_eq_true rfl) dX12_isOftenest_43 ?_
      refine g_iload_n C (f := 3) dX12_isOftenest_46 3 rfl ?_
      refine g_icmp_ne C 69 dX12_isOftenest_47 rfl (fun c9 => ?_) (fun c9 => ?_)
      · replace h := if_f h c9
        obtain ⟨y10, ey10, h⟩ := lt_e h
        refine g_iincx C (ls' := [(5, (0, y10)), (0, (2, x0)), (1, (0, x1)), (2, (0, x2)), (3, (0, x3)), (4, (0, x4))]) ey10 dX12_isOftenest_69 5 rfl (by decide) (by decide) rfl ?_
        refine g_goto C 27 dX12_isOftenest_72 rfl ?_
        refine g_sub [1, 2, 3, 4, 5, 0] rfl rfl ?_
        exact H_27 _ _ _ _ _ _ _ T0 h
      · replace h := if_t h c9
        refine g_aload_n C (f := 0) dX12_isOftenest_50 0 rfl ?_
        refine g_iload C (i := 4) dX12_isOftenest_51 4 rfl ?_
        refine g_iload C (i := 5) dX12_isOftenest_53 5 rfl ?_
        obtain ⟨q11, eq11, h⟩ := bd_e h
        refine g_cV C [(0, x4), (0, x5)] (cX12_goneOf_ok l hC T0 eq11) okX12 T0.2.1 (rg_ hC T0.1) km_RX12_399 cv_X12_goneOf rfl (by decide) rfl rfl (Nat.le_of_ble_eq_true rfl) dX12_isOftenest_55 ?_
        refine g_aload_n C (f := 0) dX12_isOftenest_58 0 rfl ?_
        refine g_iload_n C (f := 1) dX12_isOftenest_59 1 rfl ?_
        refine g_iload_n C (f := 2) dX12_isOftenest_60 2 rfl ?_
        obtain ⟨q12, eq12, h⟩ := bd_e h
        refine g_cV C [(0, x1), (0, x2)] (cX12_goneOf_ok l hC T0 eq12) okX12 T0.2.1 (rg_ hC T0.1) km_RX12_399 cv_X12_goneOf rfl (by decide) rfl rfl (Nat.le_of_ble_eq_true rfl) dX12_isOftenest_61 ?_
        refine g_icmp_le C 69 dX12_isOftenest_64 rfl (fun c13 => ?_) (fun c13 => ?_)
        · replace h := if_t h c13
          obtain ⟨y14, ey14, h⟩ := lt_e h
          refine g_iincx C (ls' := [(5, (0, y14)), (0, (2, x0)), (1, (0, x1)), (2, (0, x2)), (3, (0, x3)), (4, (0, x4))]) ey14 dX12_isOftenest_69 5 rfl (by decide) (by decide) rfl ?_
          refine g_goto C 27 dX12_isOftenest_72 rfl ?_
          refine g_sub [1, 2, 3, 4, 5, 0] rfl rfl ?_
          exact H_27 _ _ _ _ _ _ _ T0 h
        · replace h := if_f h c13
          refine g_iconst C (n := 0) dX12_isOftenest_67 (by decide) ?_
          cases h
          exact g_zret C dX12_isOftenest_68 hr hlk (Or.inl rfl)
theorem tX12_isOftenest_10 (C : MC_ E p s m c cX12_isOftenest 6 RX12) (hr : meth.sig.returnType = (some FieldType.boolean)) (hlk : meth.locks = false) (hC : Cl_ E.2.2.2.2.2 sz) {out : Int × V_} : ∀ (n : Nat) (x0 x1 x2 x3 x4 : Int) (v : V_), (E.2.2.2.2.2 x0 ∧ ty_ x0 = 12 ∧ ln_ x0 = 0) → fX12_isOftenest_10 n x0 x1 x2 x3 x4 v = some out → G_ E p l e (rm_ 2 42) s m args below meth c 6 sz (Q_ E below args s sz sz 0 out.1 out.2) 10 [(0, (2, x0)), (1, (0, x1)), (2, (0, x2)), (3, (0, x3)), (4, (0, x4))] [] v sz := by
  intro n
  induction n with
  | zero =>
    intro x0 x1 x2 x3 x4 v T0 h
    cases h
  | succ n H_10 =>
    intro x0 x1 x2 x3 x4 v T0 h
    rw [fX12_isOftenest_10] at h
    refine g_iload C (i := 4) dX12_isOftenest_10 4 rfl ?_
    refine g_aload_n C (f := 0) dX12_isOftenest_12 0 rfl ?_
    have F2 := fX12_22 hC T0.1 T0.2.1
    refine g_getR C (k := 22) (o := 9) okX12 (by decide) kf_RX12_43 dX12_isOftenest_13 hC T0.1 T0.2.1 rfl rfl ?_
    refine g_aload_n C (f := 0) dX12_isOftenest_16 0 rfl ?_
    refine g_getf C (k := 18) (kd := 0) okX12 (by decide) kf_RX12_272 dX12_isOftenest_17 (rg_ hC T0.1) T0.2.1 rfl ?_
    obtain ⟨c3, h⟩ := ck_e h
    refine g_iald C 2 dX12_isOftenest_20 (rg_ hC F2.1) F2.2.1 F2.2.2 c3 ?_
    refine g_icmp_ge C 81 dX12_isOftenest_21 rfl (fun c4 => ?_) (fun c4 => ?_)
    · replace h := if_t h c4
      refine g_iconst C (n := 1) dX12_isOftenest_81 (by decide) ?_
      cases h
      exact g_zret C dX12_isOftenest_82 hr hlk (Or.inr rfl)
    · replace h := if_f h c4
      refine g_iconst C (n := 0) dX12_isOftenest_24 (by decide) ?_
      refine g_istore C (i := 5) (ls' := [(5, (0, 0)), (0, (2, x0)), (1, (0, x1)), (2, (0, x2)), (3, (0, x3)), (4, (0, x4))]) dX12_isOftenest_25 (by decide) rfl ?_
      refine g_sub [1, 2, 3, 4, 5, 0] rfl rfl ?_
      exact tX12_isOftenest_27 C hr hlk hC _ H_10 _ _ _ _ _ _ _ _ T0 h
end
theorem cX12_isOftenest_ok (l : Launch) {E : En_} {sz : Int} (hC : Cl_ E.2.2.2.2.2 sz) {x0 x1 x2 : Int} {v : V_} {out : Int × V_} (T0 : (E.2.2.2.2.2 x0 ∧ ty_ x0 = 12 ∧ ln_ x0 = 0)) (h : fX12_isOftenest x0 x1 x2 v = some out) : Met l yX12_isOftenest [.code yX12_isOftenest cX12_isOftenest 6 (some FieldType.boolean)] (rm_ 2 42) (Pc_ E sz v [(2, x0), (0, x1), (0, x2)]) (Qc_ E sz 0 out.1 out.2) 0 0 (fun q => E.1 < q) := by
  refine met_G0 RX12 (by decide +kernel) rfl (Nat.le_of_ble_eq_true rfl) ?_
  intro p e s m args below meth c C hr hlk
  rw [fX12_isOftenest] at h
  refine g_aload_n C (f := 0) dX12_isOftenest_0 0 rfl ?_
  refine g_iload_n C (f := 1) dX12_isOftenest_1 1 rfl ?_
  refine g_iload_n C (f := 2) dX12_isOftenest_2 2 rfl ?_
  obtain ⟨q1, eq1, h⟩ := bd_e h
  refine g_cV C [(0, x1), (0, x2)] (cX12_wayTo_ok l hC T0 eq1) okX12 T0.2.1 (rg_ hC T0.1) km_RX12_378 cv_X12_wayTo rfl (by decide) rfl rfl (Nat.le_of_ble_eq_true rfl) dX12_isOftenest_3 ?_
  refine g_istore_n C (f := 3) (ls' := [(3, (0, q1.1)), (0, (2, x0)), (1, (0, x1)), (2, (0, x2))]) dX12_isOftenest_6 (by decide) rfl ?_
  refine g_iconst C (n := 0) dX12_isOftenest_7 (by decide) ?_
  refine g_istore C (i := 4) (ls' := [(4, (0, 0)), (3, (0, q1.1)), (0, (2, x0)), (1, (0, x1)), (2, (0, x2))]) dX12_isOftenest_8 (by decide) rfl ?_
  refine g_sub [2, 3, 4, 1, 0] rfl rfl ?_
  exact tX12_isOftenest_10 C hr hlk hC _ _ _ _ _ _ _ T0 h
theorem dX12_growsBehind_0 : decode cX12_growsBehind 0 = .ok (.aload_n 0, 1) := by decide +kernel
theorem dX12_growsBehind_1 : decode cX12_growsBehind 1 = .ok (.getfield 112, 3) := by decide +kernel
theorem dX12_growsBehind_4 : decode cX12_growsBehind 4 = .ok (.iconst 4, 1) := by decide +kernel
theorem dX12_growsBehind_5 : decode cX12_growsBehind 5 = .ok (.aload_n 0, 1) := by decide +kernel
theorem dX12_growsBehind_6 : decode cX12_growsBehind 6 = .ok (.getfield 402, 3) := by decide +kernel
theorem dX12_growsBehind_9 : decode cX12_growsBehind 9 = .ok (.imul, 1) := by decide +kernel
theorem dX12_growsBehind_10 : decode cX12_growsBehind 10 = .ok (.aload_n 0, 1) := by decide +kernel
theorem dX12_growsBehind_11 : decode cX12_growsBehind 11 = .ok (.getfield 115, 3) := by decide +kernel
theorem dX12_growsBehind_14 : decode cX12_growsBehind 14 = .ok (.aload_n 0, 1) := by decide +kernel
theorem dX12_growsBehind_15 : decode cX12_growsBehind 15 = .ok (.getfield 402, 3) := by decide +kernel
theorem dX12_growsBehind_18 : decode cX12_growsBehind 18 = .ok (.iaload, 1) := by decide +kernel
theorem dX12_growsBehind_19 : decode cX12_growsBehind 19 = .ok (.iadd, 1) := by decide +kernel
theorem dX12_growsBehind_20 : decode cX12_growsBehind 20 = .ok (.iconst 1, 1) := by decide +kernel
theorem dX12_growsBehind_21 : decode cX12_growsBehind 21 = .ok (.isub, 1) := by decide +kernel
theorem dX12_growsBehind_22 : decode cX12_growsBehind 22 = .ok (.iaload, 1) := by decide +kernel
theorem dX12_growsBehind_23 : decode cX12_growsBehind 23 = .ok (.istore_n 1, 1) := by decide +kernel
theorem dX12_growsBehind_24 : decode cX12_growsBehind 24 = .ok (.aload_n 0, 1) := by decide +kernel
theorem dX12_growsBehind_25 : decode cX12_growsBehind 25 = .ok (.iload_n 1, 1) := by decide +kernel
theorem dX12_growsBehind_26 : decode cX12_growsBehind 26 = .ok (.invokevirtual 405, 3) := by decide +kernel
theorem dX12_growsBehind_29 : decode cX12_growsBehind 29 = .ok (.istore_n 2, 1) := by decide +kernel
theorem dX12_growsBehind_30 : decode cX12_growsBehind 30 = .ok (.iload_n 2, 1) := by decide +kernel
theorem dX12_growsBehind_31 : decode cX12_growsBehind 31 = .ok (.ifCond .lt 26, 3) := by decide +kernel
theorem dX12_growsBehind_34 : decode cX12_growsBehind 34 = .ok (.aload_n 0, 1) := by decide +kernel
theorem dX12_growsBehind_35 : decode cX12_growsBehind 35 = .ok (.getfield 106, 3) := by decide +kernel
theorem dX12_growsBehind_38 : decode cX12_growsBehind 38 = .ok (.aload_n 0, 1) := by decide +kernel
theorem dX12_growsBehind_39 : decode cX12_growsBehind 39 = .ok (.iload_n 1, 1) := by decide +kernel
theorem dX12_growsBehind_40 : decode cX12_growsBehind 40 = .ok (.iload_n 2, 1) := by decide +kernel
theorem dX12_growsBehind_41 : decode cX12_growsBehind 41 = .ok (.invokevirtual 378, 3) := by decide +kernel
theorem dX12_growsBehind_44 : decode cX12_growsBehind 44 = .ok (.iaload, 1) := by decide +kernel
theorem dX12_growsBehind_45 : decode cX12_growsBehind 45 = .ok (.ifCond .ge 12, 3) := by decide +kernel
theorem dX12_growsBehind_48 : decode cX12_growsBehind 48 = .ok (.aload_n 0, 1) := by decide +kernel
theorem dX12_growsBehind_49 : decode cX12_growsBehind 49 = .ok (.iload_n 1, 1) := by decide +kernel
theorem dX12_growsBehind_50 : decode cX12_growsBehind 50 = .ok (.iload_n 2, 1) := by decide +kernel
theorem dX12_growsBehind_51 : decode cX12_growsBehind 51 = .ok (.invokevirtual 408, 3) := by decide +kernel
theorem dX12_growsBehind_54 : decode cX12_growsBehind 54 = .ok (.ifCond .ne 5, 3) := by decide +kernel
theorem dX12_growsBehind_57 : decode cX12_growsBehind 57 = .ok (.iconst 0, 1) := by decide +kernel
theorem dX12_growsBehind_58 : decode cX12_growsBehind 58 = .ok (.ireturn, 1) := by decide +kernel
theorem dX12_growsBehind_59 : decode cX12_growsBehind 59 = .ok (.aload_n 0, 1) := by decide +kernel
theorem dX12_growsBehind_60 : decode cX12_growsBehind 60 = .ok (.aload_n 0, 1) := by decide +kernel
theorem dX12_growsBehind_61 : decode cX12_growsBehind 61 = .ok (.getfield 115, 3) := by decide +kernel
theorem dX12_growsBehind_64 : decode cX12_growsBehind 64 = .ok (.aload_n 0, 1) := by decide +kernel
theorem dX12_growsBehind_65 : decode cX12_growsBehind 65 = .ok (.getfield 402, 3) := by decide +kernel
theorem dX12_growsBehind_68 : decode cX12_growsBehind 68 = .ok (.iaload, 1) := by decide +kernel
theorem dX12_growsBehind_69 : decode cX12_growsBehind 69 = .ok (.aload_n 0, 1) := by decide +kernel
theorem dX12_growsBehind_70 : decode cX12_growsBehind 70 = .ok (.iload_n 1, 1) := by decide +kernel
theorem dX12_growsBehind_71 : decode cX12_growsBehind 71 = .ok (.iload_n 2, 1) := by decide +kernel
theorem dX12_growsBehind_72 : decode cX12_growsBehind 72 = .ok (.invokevirtual 378, 3) := by decide +kernel
theorem dX12_growsBehind_75 : decode cX12_growsBehind 75 = .ok (.invokevirtual 412, 3) := by decide +kernel
theorem dX12_growsBehind_78 : decode cX12_growsBehind 78 = .ok (.iconst 1, 1) := by decide +kernel
theorem dX12_growsBehind_79 : decode cX12_growsBehind 79 = .ok (.ireturn, 1) := by decide +kernel
def fX12_growsBehind (x0 : Int) (v : V_) : Option (Int × V_) :=
  ck_ (0 ≤ v x0 52 ∧ v x0 52 < 8) (
  ck_ (0 ≤ wr_ ((wr_ ((wr_ (4 * (v x0 52))) + (v (x0 + 33) (v x0 52)))) - 1) ∧ wr_ ((wr_ ((wr_ (4 * (v x0 52))) + (v (x0 + 33) (v x0 52)))) - 1) < 32) (
  lt_ (v (x0 + 32) (wr_ ((wr_ ((wr_ (4 * (v x0 52))) + (v (x0 + 33) (v x0 52)))) - 1))) fun y5 =>
  bd_ (fX12_mostWay x0 y5 v) fun q6 =>
  if q6.1 < 0 then (
    some (0, q6.2))
  else (
    bd_ (fX12_wayTo x0 y5 q6.1 q6.2) fun q9 =>
    ck_ (0 ≤ q9.1 ∧ q9.1 < 8) (
    if 0 ≤ (q9.2 (x0 + 30) q9.1) then (
      some (0, q9.2))
    else (
      bd_ (fX12_isOftenest x0 y5 q6.1 q9.2) fun q12 =>
      if q12.1 = 0 then (
        some (0, q12.2))
      else (
        ck_ (0 ≤ q12.2 x0 52 ∧ q12.2 x0 52 < 8) (
        bd_ (fX12_wayTo x0 y5 q6.1 q12.2) fun q16 =>
        bd_ (fX12_joinsAt x0 (q12.2 (x0 + 33) (q12.2 x0 52)) q16.1 q16.2) fun q17 =>
        some (1, q17.2))))))))
theorem cX12_growsBehind_ok (l : Launch) {E : En_} {sz : Int} (hC : Cl_ E.2.2.2.2.2 sz) {x0 : Int} {v : V_} {out : Int × V_} (T0 : (E.2.2.2.2.2 x0 ∧ ty_ x0 = 12 ∧ ln_ x0 = 0)) (h : fX12_growsBehind x0 v = some out) : Met l yX12_growsBehind [.code yX12_growsBehind cX12_growsBehind 3 (some FieldType.boolean)] (rm_ 3 67) (Pc_ E sz v [(2, x0)]) (Qc_ E sz 0 out.1 out.2) 0 0 (fun q => E.1 < q) := by
  refine met_G0 RX12 (by decide +kernel) rfl (Nat.le_of_ble_eq_true rfl) ?_
  intro p e s m args below meth c C hr hlk
  rw [fX12_growsBehind] at h
  refine g_aload_n C (f := 0) dX12_growsBehind_0 0 rfl ?_
  have F1 := fX12_50 hC T0.1 T0.2.1
  refine g_getR C (k := 50) (o := 32) okX12 (by decide) kf_RX12_112 dX12_growsBehind_1 hC T0.1 T0.2.1 rfl rfl ?_
  refine g_iconst C (n := 4) dX12_growsBehind_4 (by decide) ?_
  refine g_aload_n C (f := 0) dX12_growsBehind_5 0 rfl ?_
  refine g_getf C (k := 52) (kd := 0) okX12 (by decide) kf_RX12_402 dX12_growsBehind_6 (rg_ hC T0.1) T0.2.1 rfl ?_
  refine g_imul C dX12_growsBehind_9 ?_
  refine g_aload_n C (f := 0) dX12_growsBehind_10 0 rfl ?_
  have F2 := fX12_51 hC T0.1 T0.2.1
  refine g_getR C (k := 51) (o := 33) okX12 (by decide) kf_RX12_115 dX12_growsBehind_11 hC T0.1 T0.2.1 rfl rfl ?_
  refine g_aload_n C (f := 0) dX12_growsBehind_14 0 rfl ?_
  refine g_getf C (k := 52) (kd := 0) okX12 (by decide) kf_RX12_402 dX12_growsBehind_15 (rg_ hC T0.1) T0.2.1 rfl ?_
  obtain ⟨c3, h⟩ := ck_e h
  refine g_iald C 8 dX12_growsBehind_18 (rg_ hC F2.1) F2.2.1 F2.2.2 c3 ?_
  refine g_iadd C dX12_growsBehind_19 ?_
  refine g_iconst C (n := 1) dX12_growsBehind_20 (by decide) ?_
  refine g_isub C dX12_growsBehind_21 ?_
  obtain ⟨c4, h⟩ := ck_e h
  refine g_iald C 32 dX12_growsBehind_22 (rg_ hC F1.1) F1.2.1 F1.2.2 c4 ?_
  obtain ⟨y5, ey5, h⟩ := lt_e h
  refine g_set C ey5 ?_
  refine g_istore_n C (f := 1) (ls' := [(1, (0, y5)), (0, (2, x0))]) dX12_growsBehind_23 (by decide) rfl ?_
  refine g_aload_n C (f := 0) dX12_growsBehind_24 1 rfl ?_
  refine g_iload_n C (f := 1) dX12_growsBehind_25 0 rfl ?_
  obtain ⟨q6, eq6, h⟩ := bd_e h
  refine g_cV C [(0, y5)] (cX12_mostWay_ok l hC T0 eq6) okX12 T0.2.1 (rg_ hC T0.1) km_RX12_405 cv_X12_mostWay rfl (by decide) rfl rfl (Nat.le_of_ble_eq_true rfl) dX12_growsBehind_26 ?_
  refine g_istore_n C (f := 2) (ls' := [(2, (0, q6.1)), (1, (0, y5)), (0, (2, x0))]) dX12_growsBehind_29 (by decide) rfl ?_
  refine g_iload_n C (f := 2) dX12_growsBehind_30 0 rfl ?_
  refine g_if_lt C 57 dX12_growsBehind_31 rfl (fun c7 => ?_) (fun c7 => ?_)
  · replace h := if_t h c7
    refine g_iconst C (n := 0) dX12_growsBehind_57 (by decide) ?_
    cases h
    exact g_zret C dX12_growsBehind_58 hr hlk (Or.inl rfl)
  · replace h := if_f h c7
    refine g_aload_n C (f := 0) dX12_growsBehind_34 2 rfl ?_
    have F8 := fX12_48 hC T0.1 T0.2.1
    refine g_getR C (k := 48) (o := 30) okX12 (by decide) kf_RX12_106 dX12_growsBehind_35 hC T0.1 T0.2.1 rfl rfl ?_
    refine g_aload_n C (f := 0) dX12_growsBehind_38 2 rfl ?_
    refine g_iload_n C (f := 1) dX12_growsBehind_39 1 rfl ?_
    refine g_iload_n C (f := 2) dX12_growsBehind_40 0 rfl ?_
    obtain ⟨q9, eq9, h⟩ := bd_e h
    refine g_cV C [(0, y5), (0, q6.1)] (cX12_wayTo_ok l hC T0 eq9) okX12 T0.2.1 (rg_ hC T0.1) km_RX12_378 cv_X12_wayTo rfl (by decide) rfl rfl (Nat.le_of_ble_eq_true rfl) dX12_growsBehind_41 ?_
    obtain ⟨c10, h⟩ := ck_e h
    refine g_iald C 8 dX12_growsBehind_44 (rg_ hC F8.1) F8.2.1 F8.2.2 c10 ?_
    refine g_if_ge C 57 dX12_growsBehind_45 rfl (fun c11 => ?_) (fun c11 => ?_)
    · replace h := if_t h c11
      refine g_iconst C (n := 0) dX12_growsBehind_57 (by decide) ?_
      cases h
      exact g_zret C dX12_growsBehind_58 hr hlk (Or.inl rfl)
    · replace h := if_f h c11
      refine g_aload_n C (f := 0) dX12_growsBehind_48 2 rfl ?_
      refine g_iload_n C (f := 1) dX12_growsBehind_49 1 rfl ?_
      refine g_iload_n C (f := 2) dX12_growsBehind_50 0 rfl ?_
      obtain ⟨q12, eq12, h⟩ := bd_e h
      refine g_cV C [(0, y5), (0, q6.1)] (cX12_isOftenest_ok l hC T0 eq12) okX12 T0.2.1 (rg_ hC T0.1) km_RX12_408 cv_X12_isOftenest rfl (by decide) rfl rfl (Nat.le_of_ble_eq_true rfl) dX12_growsBehind_51 ?_
      refine g_if_ne C 59 dX12_growsBehind_54 rfl (fun c13 => ?_) (fun c13 => ?_)
      · replace h := if_f h c13
        refine g_aload_n C (f := 0) dX12_growsBehind_59 2 rfl ?_
        refine g_aload_n C (f := 0) dX12_growsBehind_60 2 rfl ?_
        have F14 := fX12_51 hC T0.1 T0.2.1
        refine g_getR C (k := 51) (o := 33) okX12 (by decide) kf_RX12_115 dX12_growsBehind_61 hC T0.1 T0.2.1 rfl rfl ?_
        refine g_aload_n C (f := 0) dX12_growsBehind_64 2 rfl ?_
        refine g_getf C (k := 52) (kd := 0) okX12 (by decide) kf_RX12_402 dX12_growsBehind_65 (rg_ hC T0.1) T0.2.1 rfl ?_
        obtain ⟨c15, h⟩ := ck_e h
        refine g_iald C 8 dX12_growsBehind_68 (rg_ hC F14.1) F14.2.1 F14.2.2 c15 ?_
        refine g_aload_n C (f := 0) dX12_growsBehind_69 2 rfl ?_
        refine g_iload_n C (f := 1) dX12_growsBehind_70 1 rfl ?_
        refine g_iload_n C (f := 2) dX12_growsBehind_71 0 rfl ?_
        obtain ⟨q16, eq16, h⟩ := bd_e h
        refine g_cV C [(0, y5), (0, q6.1)] (cX12_wayTo_ok l hC T0 eq16) okX12 T0.2.1 (rg_ hC T0.1) km_RX12_378 cv_X12_wayTo rfl (by decide) rfl rfl (Nat.le_of_ble_eq_true rfl) dX12_growsBehind_72 ?_
        obtain ⟨q17, eq17, h⟩ := bd_e h
        refine g_cV C [(0, q12.2 (x0 + 33) (q12.2 x0 52)), (0, q16.1)] (cX12_joinsAt_ok l hC T0 eq17) okX12 T0.2.1 (rg_ hC T0.1) km_RX12_412 cv_X12_joinsAt rfl (by decide) rfl rfl (Nat.le_of_ble_eq_true rfl) dX12_growsBehind_75 ?_
        refine g_iconst C (n := 1) dX12_growsBehind_78 (by decide) ?_
        cases h
        exact g_zret C dX12_growsBehind_79 hr hlk (Or.inr rfl)
      · replace h := if_t h c13
        refine g_iconst C (n := 0) dX12_growsBehind_57 (by decide) ?_
        cases h
        exact g_zret C dX12_growsBehind_58 hr hlk (Or.inl rfl)
theorem dX12_begunOf_0 : decode cX12_begunOf 0 = .ok (.aload_n 0, 1) := by decide +kernel
theorem dX12_begunOf_1 : decode cX12_begunOf 1 = .ok (.getfield 88, 3) := by decide +kernel
theorem dX12_begunOf_4 : decode cX12_begunOf 4 = .ok (.bipush 14, 2) := by decide +kernel
theorem dX12_begunOf_6 : decode cX12_begunOf 6 = .ok (.iload_n 1, 1) := by decide +kernel
theorem dX12_begunOf_7 : decode cX12_begunOf 7 = .ok (.iadd, 1) := by decide +kernel
theorem dX12_begunOf_8 : decode cX12_begunOf 8 = .ok (.iaload, 1) := by decide +kernel
theorem dX12_begunOf_9 : decode cX12_begunOf 9 = .ok (.ireturn, 1) := by decide +kernel
def fX12_begunOf (x0 x1 : Int) (v : V_) : Option (Int × V_) :=
  ck_ (0 ≤ wr_ (14 + x1) ∧ wr_ (14 + x1) < 47) (
  some (v (x0 + 24) (wr_ (14 + x1)), v))
theorem cX12_begunOf_ok (l : Launch) {E : En_} {sz : Int} (hC : Cl_ E.2.2.2.2.2 sz) {x0 x1 : Int} {v : V_} {out : Int × V_} (T0 : (E.2.2.2.2.2 x0 ∧ ty_ x0 = 12 ∧ ln_ x0 = 0)) (h : fX12_begunOf x0 x1 v = some out) : Met l yX12_begunOf [.code yX12_begunOf cX12_begunOf 2 (some FieldType.int)] (rm_ 0 0) (Pc_ E sz v [(2, x0), (0, x1)]) (Qc_ E sz 0 out.1 out.2) 0 0 (fun q => E.1 < q) := by
  refine met_G0 RX12 (by decide +kernel) rfl (Nat.le_of_ble_eq_true rfl) ?_
  intro p e s m args below meth c C hr hlk
  rw [fX12_begunOf] at h
  refine g_aload_n C (f := 0) dX12_begunOf_0 0 rfl ?_
  have F1 := fX12_37 hC T0.1 T0.2.1
  refine g_getR C (k := 37) (o := 24) okX12 (by decide) kf_RX12_88 dX12_begunOf_1 hC T0.1 T0.2.1 rfl rfl ?_
  refine g_bipush C (n := 14) dX12_begunOf_4 (by decide) ?_
  refine g_iload_n C (f := 1) dX12_begunOf_6 1 rfl ?_
  refine g_iadd C dX12_begunOf_7 ?_
  obtain ⟨c2, h⟩ := ck_e h
  refine g_iald C 47 dX12_begunOf_8 (rg_ hC F1.1) F1.2.1 F1.2.2 c2 ?_
  cases h
  exact g_iret C dX12_begunOf_9 hr hlk
theorem dX12_seedBlock_0 : decode cX12_seedBlock 0 = .ok (.iconst (-1), 1) := by decide +kernel
theorem dX12_seedBlock_1 : decode cX12_seedBlock 1 = .ok (.istore_n 1, 1) := by decide +kernel
theorem dX12_seedBlock_2 : decode cX12_seedBlock 2 = .ok (.iconst 0, 1) := by decide +kernel
theorem dX12_seedBlock_3 : decode cX12_seedBlock 3 = .ok (.istore_n 2, 1) := by decide +kernel
theorem dX12_seedBlock_4 : decode cX12_seedBlock 4 = .ok (.iload_n 2, 1) := by decide +kernel
theorem dX12_seedBlock_5 : decode cX12_seedBlock 5 = .ok (.aload_n 0, 1) := by decide +kernel
theorem dX12_seedBlock_6 : decode cX12_seedBlock 6 = .ok (.getfield 43, 3) := by decide +kernel
theorem dX12_seedBlock_9 : decode cX12_seedBlock 9 = .ok (.aload_n 0, 1) := by decide +kernel
theorem dX12_seedBlock_10 : decode cX12_seedBlock 10 = .ok (.getfield 272, 3) := by decide +kernel
theorem dX12_seedBlock_13 : decode cX12_seedBlock 13 = .ok (.iaload, 1) := by decide +kernel
theorem dX12_seedBlock_14 : decode cX12_seedBlock 14 = .ok (.if_icmp .ge 37, 3) := by decide +kernel
theorem dX12_seedBlock_17 : decode cX12_seedBlock 17 = .ok (.aload_n 0, 1) := by decide +kernel
theorem dX12_seedBlock_18 : decode cX12_seedBlock 18 = .ok (.getfield 106, 3) := by decide +kernel
theorem dX12_seedBlock_21 : decode cX12_seedBlock 21 = .ok (.iload_n 2, 1) := by decide +kernel
theorem dX12_seedBlock_22 : decode cX12_seedBlock 22 = .ok (.iaload, 1) := by decide +kernel
theorem dX12_seedBlock_23 : decode cX12_seedBlock 23 = .ok (.ifCond .ge 22, 3) := by decide +kernel
theorem dX12_seedBlock_26 : decode cX12_seedBlock 26 = .ok (.iload_n 1, 1) := by decide +kernel
theorem dX12_seedBlock_27 : decode cX12_seedBlock 27 = .ok (.ifCond .lt 16, 3) := by decide +kernel
theorem dX12_seedBlock_30 : decode cX12_seedBlock 30 = .ok (.aload_n 0, 1) := by decide +kernel
theorem dX12_seedBlock_31 : decode cX12_seedBlock 31 = .ok (.iload_n 2, 1) := by decide +kernel
theorem dX12_seedBlock_32 : decode cX12_seedBlock 32 = .ok (.invokevirtual 418, 3) := by decide +kernel
theorem dX12_seedBlock_35 : decode cX12_seedBlock 35 = .ok (.aload_n 0, 1) := by decide +kernel
theorem dX12_seedBlock_36 : decode cX12_seedBlock 36 = .ok (.iload_n 1, 1) := by decide +kernel
theorem dX12_seedBlock_37 : decode cX12_seedBlock 37 = .ok (.invokevirtual 418, 3) := by decide +kernel
theorem dX12_seedBlock_40 : decode cX12_seedBlock 40 = .ok (.if_icmp .le 5, 3) := by decide +kernel
theorem dX12_seedBlock_43 : decode cX12_seedBlock 43 = .ok (.iload_n 2, 1) := by decide +kernel
theorem dX12_seedBlock_44 : decode cX12_seedBlock 44 = .ok (.istore_n 1, 1) := by decide +kernel
theorem dX12_seedBlock_45 : decode cX12_seedBlock 45 = .ok (.iinc 2 1, 3) := by decide +kernel
theorem dX12_seedBlock_48 : decode cX12_seedBlock 48 = .ok (.goto (-44), 3) := by decide +kernel
theorem dX12_seedBlock_51 : decode cX12_seedBlock 51 = .ok (.iload_n 1, 1) := by decide +kernel
theorem dX12_seedBlock_52 : decode cX12_seedBlock 52 = .ok (.ireturn, 1) := by decide +kernel
def fX12_seedBlock_43 (k4 : Int → Int → Int → V_ → Option (Int × V_)) (x0 x2 : Int) (v : V_) : Option (Int × V_) :=
  lt_ (wr_ (x2 + 1)) fun y9 =>
  k4 x0 x2 y9 v
def fX12_seedBlock_4 : Nat → Int → Int → Int → V_ → Option (Int × V_)
  | 0, _, _, _, _ => none
  | n + 1, x0, x1, x2, v =>
    ck_ (0 ≤ v x0 18 ∧ v x0 18 < 2) (
    if (v (x0 + 9) (v x0 18)) ≤ x2 then (
      some (x1, v))
    else (
      ck_ (0 ≤ x2 ∧ x2 < 8) (
      if 0 ≤ (v (x0 + 30) x2) then (
        lt_ (wr_ (x2 + 1)) fun y7 =>
        (fX12_seedBlock_4 n) x0 x1 y7 v)
      else (
        if x1 < 0 then (
          fX12_seedBlock_43 (fX12_seedBlock_4 n) x0 x2 v)
        else (
          bd_ (fX12_begunOf x0 x2 v) fun q10 =>
          bd_ (fX12_begunOf x0 x1 q10.2) fun q11 =>
          if q10.1 ≤ q11.1 then (
            lt_ (wr_ (x2 + 1)) fun y13 =>
            (fX12_seedBlock_4 n) x0 x1 y13 q11.2)
          else (
            fX12_seedBlock_43 (fX12_seedBlock_4 n) x0 x2 q11.2))))))
def fX12_seedBlock (x0 : Int) (v : V_) : Option (Int × V_) :=
  fX12_seedBlock_4 fu_ x0 (-1) 0 v
section
variable {E : En_} {p : Program} {l : Launch} {e : Env} {s : State} {m : MethodId} {args : Array Value} {below : List Frame} {meth : Method} {c : Code} {sz : Int}
theorem tX12_seedBlock_43 (C : MC_ E p s m c cX12_seedBlock 3 RX12) (hr : meth.sig.returnType = (some FieldType.int)) (hlk : meth.locks = false) (hC : Cl_ E.2.2.2.2.2 sz) {out : Int × V_} (k4 : Int → Int → Int → V_ → Option (Int × V_)) (H_4 : ∀ (x0 x1 x2 : Int) (v : V_), (E.2.2.2.2.2 x0 ∧ ty_ x0 = 12 ∧ ln_ x0 = 0) → k4 x0 x1 x2 v = some out → G_ E p l e (rm_ 1 21) s m args below meth c 3 sz (Q_ E below args s sz sz 0 out.1 out.2) 4 [(0, (2, x0)), (1, (0, x1)), (2, (0, x2))] [] v sz) (x0 x2 : Int) (v : V_) (T0 : (E.2.2.2.2.2 x0 ∧ ty_ x0 = 12 ∧ ln_ x0 = 0)) (h : fX12_seedBlock_43 k4 x0 x2 v = some out) : G_ E p l e (rm_ 1 21) s m args below meth c 3 sz (Q_ E below args s sz sz 0 out.1 out.2) 43 [(0, (2, x0)), (2, (0, x2))] [] v sz := by
  rw [fX12_seedBlock_43] at h
  refine g_iload_n C (f := 2) dX12_seedBlock_43 1 rfl ?_
  refine g_istore_n C (f := 1) (ls' := [(1, (0, x2)), (0, (2, x0)), (2, (0, x2))]) dX12_seedBlock_44 (by decide) rfl ?_
  obtain ⟨y9, ey9, h⟩ := lt_e h
  refine g_iincx C (ls' := [(2, (0, y9)), (1, (0, x2)), (0, (2, x0))]) ey9 dX12_seedBlock_45 2 rfl (by decide) (by decide) rfl ?_
  refine g_goto C 4 dX12_seedBlock_48 rfl ?_
  refine g_sub [2, 1, 0] rfl rfl ?_
  exact H_4 _ _ _ _ T0 h
theorem tX12_seedBlock_4 (C : MC_ E p s m c cX12_seedBlock 3 RX12) (hr : meth.sig.returnType = (some FieldType.int)) (hlk : meth.locks = false) (hC : Cl_ E.2.2.2.2.2 sz) {out : Int × V_} : ∀ (n : Nat) (x0 x1 x2 : Int) (v : V_), (E.2.2.2.2.2 x0 ∧ ty_ x0 = 12 ∧ ln_ x0 = 0) → fX12_seedBlock_4 n x0 x1 x2 v = some out → G_ E p l e (rm_ 1 21) s m args below meth c 3 sz (Q_ E below args s sz sz 0 out.1 out.2) 4 [(0, (2, x0)), (1, (0, x1)), (2, (0, x2))] [] v sz := by
  intro n
  induction n with
  | zero =>
    intro x0 x1 x2 v T0 h
    cases h
  | succ n H_4 =>
    intro x0 x1 x2 v T0 h
    rw [fX12_seedBlock_4] at h
    refine g_iload_n C (f := 2) dX12_seedBlock_4 2 rfl ?_
    refine g_aload_n C (f := 0) dX12_seedBlock_5 0 rfl ?_
    have F1 := fX12_22 hC T0.1 T0.2.1
    refine g_getR C (k := 22) (o := 9) okX12 (by decide) kf_RX12_43 dX12_seedBlock_6 hC T0.1 T0.2.1 rfl rfl ?_
    refine g_aload_n C (f := 0) dX12_seedBlock_9 0 rfl ?_
    refine g_getf C (k := 18) (kd := 0) okX12 (by decide) kf_RX12_272 dX12_seedBlock_10 (rg_ hC T0.1) T0.2.1 rfl ?_
    obtain ⟨c2, h⟩ := ck_e h
    refine g_iald C 2 dX12_seedBlock_13 (rg_ hC F1.1) F1.2.1 F1.2.2 c2 ?_
    refine g_icmp_ge C 51 dX12_seedBlock_14 rfl (fun c3 => ?_) (fun c3 => ?_)
    · replace h := if_t h c3
      refine g_iload_n C (f := 1) dX12_seedBlock_51 1 rfl ?_
      cases h
      exact g_iret C dX12_seedBlock_52 hr hlk
    · replace h := if_f h c3
      refine g_aload_n C (f := 0) dX12_seedBlock_17 0 rfl ?_
      have F4 := fX12_48 hC T0.1 T0.2.1
      refine g_getR C (k := 48) (o := 30) okX12 (by decide) kf_RX12_106 dX12_seedBlock_18 hC T0.1 T0.2.1 rfl rfl ?_
      refine g_iload_n C (f := 2) dX12_seedBlock_21 2 rfl ?_
      obtain ⟨c5, h⟩ := ck_e h
      refine g_iald C 8 dX12_seedBlock_22 (rg_ hC F4.1) F4.2.1 F4.2.2 c5 ?_
      refine g_if_ge C 45 dX12_seedBlock_23 rfl (fun c6 => ?_) (fun c6 => ?_)
      · replace h := if_t h c6
        obtain ⟨y7, ey7, h⟩ := lt_e h
        refine g_iincx C (ls' := [(2, (0, y7)), (0, (2, x0)), (1, (0, x1))]) ey7 dX12_seedBlock_45 2 rfl (by decide) (by decide) rfl ?_
        refine g_goto C 4 dX12_seedBlock_48 rfl ?_
        refine g_sub [1, 2, 0] rfl rfl ?_
        exact H_4 _ _ _ _ T0 h
      · replace h := if_f h c6
        refine g_iload_n C (f := 1) dX12_seedBlock_26 1 rfl ?_
        refine g_if_lt C 43 dX12_seedBlock_27 rfl (fun c8 => ?_) (fun c8 => ?_)
        · replace h := if_t h c8
          refine g_sub [0, 2] rfl rfl ?_
          exact tX12_seedBlock_43 C hr hlk hC _ H_4 _ _ _ T0 h
        · replace h := if_f h c8
          refine g_aload_n C (f := 0) dX12_seedBlock_30 0 rfl ?_
          refine g_iload_n C (f := 2) dX12_seedBlock_31 2 rfl ?_
          obtain ⟨q10, eq10, h⟩ := bd_e h
          refine g_cV C [(0, x2)] (cX12_begunOf_ok l hC T0 eq10) okX12 T0.2.1 (rg_ hC T0.1) km_RX12_418 cv_X12_begunOf rfl (by decide) rfl rfl (Nat.le_of_ble_eq_true rfl) dX12_seedBlock_32 ?_
          refine g_aload_n C (f := 0) dX12_seedBlock_35 0 rfl ?_
          refine g_iload_n C (f := 1) dX12_seedBlock_36 1 rfl ?_
          obtain ⟨q11, eq11, h⟩ := bd_e h
          refine g_cV C [(0, x1)] (cX12_begunOf_ok l hC T0 eq11) okX12 T0.2.1 (rg_ hC T0.1) km_RX12_418 cv_X12_begunOf rfl (by decide) rfl rfl (Nat.le_of_ble_eq_true rfl) dX12_seedBlock_37 ?_
          refine g_icmp_le C 45 dX12_seedBlock_40 rfl (fun c12 => ?_) (fun c12 => ?_)
          · replace h := if_t h c12
            obtain ⟨y13, ey13, h⟩ := lt_e h
            refine g_iincx C (ls' := [(2, (0, y13)), (0, (2, x0)), (1, (0, x1))]) ey13 dX12_seedBlock_45 2 rfl (by decide) (by decide) rfl ?_
            refine g_goto C 4 dX12_seedBlock_48 rfl ?_
            refine g_sub [1, 2, 0] rfl rfl ?_
            exact H_4 _ _ _ _ T0 h
          · replace h := if_f h c12
            refine g_sub [0, 2] rfl rfl ?_
            exact tX12_seedBlock_43 C hr hlk hC _ H_4 _ _ _ T0 h
end
theorem cX12_seedBlock_ok (l : Launch) {E : En_} {sz : Int} (hC : Cl_ E.2.2.2.2.2 sz) {x0 : Int} {v : V_} {out : Int × V_} (T0 : (E.2.2.2.2.2 x0 ∧ ty_ x0 = 12 ∧ ln_ x0 = 0)) (h : fX12_seedBlock x0 v = some out) : Met l yX12_seedBlock [.code yX12_seedBlock cX12_seedBlock 3 (some FieldType.int)] (rm_ 1 21) (Pc_ E sz v [(2, x0)]) (Qc_ E sz 0 out.1 out.2) 0 0 (fun q => E.1 < q) := by
  refine met_G0 RX12 (by decide +kernel) rfl (Nat.le_of_ble_eq_true rfl) ?_
  intro p e s m args below meth c C hr hlk
  rw [fX12_seedBlock] at h
  refine g_iconst C (n := (-1)) dX12_seedBlock_0 (by decide) ?_
  refine g_istore_n C (f := 1) (ls' := [(1, (0, (-1))), (0, (2, x0))]) dX12_seedBlock_1 (by decide) rfl ?_
  refine g_iconst C (n := 0) dX12_seedBlock_2 (by decide) ?_
  refine g_istore_n C (f := 2) (ls' := [(2, (0, 0)), (1, (0, (-1))), (0, (2, x0))]) dX12_seedBlock_3 (by decide) rfl ?_
  refine g_sub [2, 1, 0] rfl rfl ?_
  exact tX12_seedBlock_4 C hr hlk hC _ _ _ _ _ T0 h
theorem dX12_fillsTraces_0 : decode cX12_fillsTraces 0 = .ok (.iconst 0, 1) := by decide +kernel
theorem dX12_fillsTraces_1 : decode cX12_fillsTraces 1 = .ok (.istore_n 1, 1) := by decide +kernel
theorem dX12_fillsTraces_2 : decode cX12_fillsTraces 2 = .ok (.iload_n 1, 1) := by decide +kernel
theorem dX12_fillsTraces_3 : decode cX12_fillsTraces 3 = .ok (.bipush 8, 2) := by decide +kernel
theorem dX12_fillsTraces_5 : decode cX12_fillsTraces 5 = .ok (.if_icmp .ge 23, 3) := by decide +kernel
theorem dX12_fillsTraces_8 : decode cX12_fillsTraces 8 = .ok (.aload_n 0, 1) := by decide +kernel
theorem dX12_fillsTraces_9 : decode cX12_fillsTraces 9 = .ok (.getfield 106, 3) := by decide +kernel
theorem dX12_fillsTraces_12 : decode cX12_fillsTraces 12 = .ok (.iload_n 1, 1) := by decide +kernel
theorem dX12_fillsTraces_13 : decode cX12_fillsTraces 13 = .ok (.iconst (-1), 1) := by decide +kernel
theorem dX12_fillsTraces_14 : decode cX12_fillsTraces 14 = .ok (.iastore, 1) := by decide +kernel
theorem dX12_fillsTraces_15 : decode cX12_fillsTraces 15 = .ok (.aload_n 0, 1) := by decide +kernel
theorem dX12_fillsTraces_16 : decode cX12_fillsTraces 16 = .ok (.getfield 115, 3) := by decide +kernel
theorem dX12_fillsTraces_19 : decode cX12_fillsTraces 19 = .ok (.iload_n 1, 1) := by decide +kernel
theorem dX12_fillsTraces_20 : decode cX12_fillsTraces 20 = .ok (.iconst 0, 1) := by decide +kernel
theorem dX12_fillsTraces_21 : decode cX12_fillsTraces 21 = .ok (.iastore, 1) := by decide +kernel
theorem dX12_fillsTraces_22 : decode cX12_fillsTraces 22 = .ok (.iinc 1 1, 3) := by decide +kernel
theorem dX12_fillsTraces_25 : decode cX12_fillsTraces 25 = .ok (.goto (-23), 3) := by decide +kernel
theorem dX12_fillsTraces_28 : decode cX12_fillsTraces 28 = .ok (.aload_n 0, 1) := by decide +kernel
theorem dX12_fillsTraces_29 : decode cX12_fillsTraces 29 = .ok (.iconst 0, 1) := by decide +kernel
theorem dX12_fillsTraces_30 : decode cX12_fillsTraces 30 = .ok (.putfield 402, 3) := by decide +kernel
theorem dX12_fillsTraces_33 : decode cX12_fillsTraces 33 = .ok (.aload_n 0, 1) := by decide +kernel
theorem dX12_fillsTraces_34 : decode cX12_fillsTraces 34 = .ok (.invokevirtual 421, 3) := by decide +kernel
theorem dX12_fillsTraces_37 : decode cX12_fillsTraces 37 = .ok (.istore_n 1, 1) := by decide +kernel
theorem dX12_fillsTraces_38 : decode cX12_fillsTraces 38 = .ok (.iload_n 1, 1) := by decide +kernel
theorem dX12_fillsTraces_39 : decode cX12_fillsTraces 39 = .ok (.ifCond .lt 121, 3) := by decide +kernel
theorem dX12_fillsTraces_42 : decode cX12_fillsTraces 42 = .ok (.aload_n 0, 1) := by decide +kernel
theorem dX12_fillsTraces_43 : decode cX12_fillsTraces 43 = .ok (.iconst 0, 1) := by decide +kernel
theorem dX12_fillsTraces_44 : decode cX12_fillsTraces 44 = .ok (.iload_n 1, 1) := by decide +kernel
theorem dX12_fillsTraces_45 : decode cX12_fillsTraces 45 = .ok (.invokevirtual 412, 3) := by decide +kernel
theorem dX12_fillsTraces_48 : decode cX12_fillsTraces 48 = .ok (.iconst 1, 1) := by decide +kernel
theorem dX12_fillsTraces_49 : decode cX12_fillsTraces 49 = .ok (.istore_n 2, 1) := by decide +kernel
theorem dX12_fillsTraces_50 : decode cX12_fillsTraces 50 = .ok (.iload_n 2, 1) := by decide +kernel
theorem dX12_fillsTraces_51 : decode cX12_fillsTraces 51 = .ok (.ifCond .eq 24, 3) := by decide +kernel
theorem dX12_fillsTraces_54 : decode cX12_fillsTraces 54 = .ok (.aload_n 0, 1) := by decide +kernel
theorem dX12_fillsTraces_55 : decode cX12_fillsTraces 55 = .ok (.getfield 115, 3) := by decide +kernel
theorem dX12_fillsTraces_58 : decode cX12_fillsTraces 58 = .ok (.aload_n 0, 1) := by decide +kernel
theorem dX12_fillsTraces_59 : decode cX12_fillsTraces 59 = .ok (.getfield 402, 3) := by decide +kernel
theorem dX12_fillsTraces_62 : decode cX12_fillsTraces 62 = .ok (.iaload, 1) := by decide +kernel
theorem dX12_fillsTraces_63 : decode cX12_fillsTraces 63 = .ok (.iconst 4, 1) := by decide +kernel
theorem dX12_fillsTraces_64 : decode cX12_fillsTraces 64 = .ok (.if_icmp .ge 11, 3) := by decide +kernel
theorem dX12_fillsTraces_67 : decode cX12_fillsTraces 67 = .ok (.aload_n 0, 1) := by decide +kernel
theorem dX12_fillsTraces_68 : decode cX12_fillsTraces 68 = .ok (.invokevirtual 424, 3) := by decide +kernel
theorem dX12_fillsTraces_71 : decode cX12_fillsTraces 71 = .ok (.istore_n 2, 1) := by decide +kernel
theorem dX12_fillsTraces_72 : decode cX12_fillsTraces 72 = .ok (.goto (-22), 3) := by decide +kernel
theorem dX12_fillsTraces_75 : decode cX12_fillsTraces 75 = .ok (.iconst 1, 1) := by decide +kernel
theorem dX12_fillsTraces_76 : decode cX12_fillsTraces 76 = .ok (.istore_n 2, 1) := by decide +kernel
theorem dX12_fillsTraces_77 : decode cX12_fillsTraces 77 = .ok (.iload_n 2, 1) := by decide +kernel
theorem dX12_fillsTraces_78 : decode cX12_fillsTraces 78 = .ok (.ifCond .eq 24, 3) := by decide +kernel
theorem dX12_fillsTraces_81 : decode cX12_fillsTraces 81 = .ok (.aload_n 0, 1) := by decide +kernel
theorem dX12_fillsTraces_82 : decode cX12_fillsTraces 82 = .ok (.getfield 115, 3) := by decide +kernel
theorem dX12_fillsTraces_85 : decode cX12_fillsTraces 85 = .ok (.aload_n 0, 1) := by decide +kernel
theorem dX12_fillsTraces_86 : decode cX12_fillsTraces 86 = .ok (.getfield 402, 3) := by decide +kernel
theorem dX12_fillsTraces_89 : decode cX12_fillsTraces 89 = .ok (.iaload, 1) := by decide +kernel
theorem dX12_fillsTraces_90 : decode cX12_fillsTraces 90 = .ok (.iconst 4, 1) := by decide +kernel
theorem dX12_fillsTraces_91 : decode cX12_fillsTraces 91 = .ok (.if_icmp .ge 11, 3) := by decide +kernel
theorem dX12_fillsTraces_94 : decode cX12_fillsTraces 94 = .ok (.aload_n 0, 1) := by decide +kernel
theorem dX12_fillsTraces_95 : decode cX12_fillsTraces 95 = .ok (.invokevirtual 427, 3) := by decide +kernel
theorem dX12_fillsTraces_98 : decode cX12_fillsTraces 98 = .ok (.istore_n 2, 1) := by decide +kernel
theorem dX12_fillsTraces_99 : decode cX12_fillsTraces 99 = .ok (.goto (-22), 3) := by decide +kernel
theorem dX12_fillsTraces_102 : decode cX12_fillsTraces 102 = .ok (.iconst 0, 1) := by decide +kernel
theorem dX12_fillsTraces_103 : decode cX12_fillsTraces 103 = .ok (.istore_n 3, 1) := by decide +kernel
theorem dX12_fillsTraces_104 : decode cX12_fillsTraces 104 = .ok (.iload_n 3, 1) := by decide +kernel
theorem dX12_fillsTraces_105 : decode cX12_fillsTraces 105 = .ok (.aload_n 0, 1) := by decide +kernel
theorem dX12_fillsTraces_106 : decode cX12_fillsTraces 106 = .ok (.getfield 115, 3) := by decide +kernel
theorem dX12_fillsTraces_109 : decode cX12_fillsTraces 109 = .ok (.aload_n 0, 1) := by decide +kernel
theorem dX12_fillsTraces_110 : decode cX12_fillsTraces 110 = .ok (.getfield 402, 3) := by decide +kernel
theorem dX12_fillsTraces_113 : decode cX12_fillsTraces 113 = .ok (.iaload, 1) := by decide +kernel
theorem dX12_fillsTraces_114 : decode cX12_fillsTraces 114 = .ok (.if_icmp .ge 28, 3) := by decide +kernel
theorem dX12_fillsTraces_117 : decode cX12_fillsTraces 117 = .ok (.aload_n 0, 1) := by decide +kernel
theorem dX12_fillsTraces_118 : decode cX12_fillsTraces 118 = .ok (.getfield 109, 3) := by decide +kernel
theorem dX12_fillsTraces_121 : decode cX12_fillsTraces 121 = .ok (.aload_n 0, 1) := by decide +kernel
theorem dX12_fillsTraces_122 : decode cX12_fillsTraces 122 = .ok (.getfield 112, 3) := by decide +kernel
theorem dX12_fillsTraces_125 : decode cX12_fillsTraces 125 = .ok (.iconst 4, 1) := by decide +kernel
theorem dX12_fillsTraces_126 : decode cX12_fillsTraces 126 = .ok (.aload_n 0, 1) := by decide +kernel
theorem dX12_fillsTraces_127 : decode cX12_fillsTraces 127 = .ok (.getfield 402, 3) := by decide +kernel
theorem dX12_fillsTraces_130 : decode cX12_fillsTraces 130 = .ok (.imul, 1) := by decide +kernel
theorem dX12_fillsTraces_131 : decode cX12_fillsTraces 131 = .ok (.iload_n 3, 1) := by decide +kernel
theorem dX12_fillsTraces_132 : decode cX12_fillsTraces 132 = .ok (.iadd, 1) := by decide +kernel
theorem dX12_fillsTraces_133 : decode cX12_fillsTraces 133 = .ok (.iaload, 1) := by decide +kernel
theorem dX12_fillsTraces_134 : decode cX12_fillsTraces 134 = .ok (.iload_n 3, 1) := by decide +kernel
theorem dX12_fillsTraces_135 : decode cX12_fillsTraces 135 = .ok (.iastore, 1) := by decide +kernel
theorem dX12_fillsTraces_136 : decode cX12_fillsTraces 136 = .ok (.iinc 3 1, 3) := by decide +kernel
theorem dX12_fillsTraces_139 : decode cX12_fillsTraces 139 = .ok (.goto (-35), 3) := by decide +kernel
theorem dX12_fillsTraces_142 : decode cX12_fillsTraces 142 = .ok (.aload_n 0, 1) := by decide +kernel
theorem dX12_fillsTraces_143 : decode cX12_fillsTraces 143 = .ok (.dup, 1) := by decide +kernel
theorem dX12_fillsTraces_144 : decode cX12_fillsTraces 144 = .ok (.getfield 402, 3) := by decide +kernel
theorem dX12_fillsTraces_147 : decode cX12_fillsTraces 147 = .ok (.iconst 1, 1) := by decide +kernel
theorem dX12_fillsTraces_148 : decode cX12_fillsTraces 148 = .ok (.iadd, 1) := by decide +kernel
theorem dX12_fillsTraces_149 : decode cX12_fillsTraces 149 = .ok (.putfield 402, 3) := by decide +kernel
theorem dX12_fillsTraces_152 : decode cX12_fillsTraces 152 = .ok (.aload_n 0, 1) := by decide +kernel
theorem dX12_fillsTraces_153 : decode cX12_fillsTraces 153 = .ok (.invokevirtual 421, 3) := by decide +kernel
theorem dX12_fillsTraces_156 : decode cX12_fillsTraces 156 = .ok (.istore_n 1, 1) := by decide +kernel
theorem dX12_fillsTraces_157 : decode cX12_fillsTraces 157 = .ok (.goto (-119), 3) := by decide +kernel
theorem dX12_fillsTraces_160 : decode cX12_fillsTraces 160 = .ok (.return_, 1) := by decide +kernel
def fX12_fillsTraces_104 (k38 : Int → Int → V_ → Option (Int × V_)) : Nat → Int → Int → V_ → Option (Int × V_)
  | 0, _, _, _ => none
  | n + 1, x0, x3, v =>
    ck_ (0 ≤ v x0 52 ∧ v x0 52 < 8) (
    if (v (x0 + 33) (v x0 52)) ≤ x3 then (
      lt_ (up_ v x0 52 (wr_ ((v x0 52) + 1))) fun v11 =>
      bd_ (fX12_seedBlock x0 v11) fun q12 =>
      k38 x0 q12.1 q12.2)
    else (
      ck_ (0 ≤ wr_ ((wr_ (4 * (v x0 52))) + x3) ∧ wr_ ((wr_ (4 * (v x0 52))) + x3) < 32) (
      ck_ (0 ≤ v (x0 + 32) (wr_ ((wr_ (4 * (v x0 52))) + x3)) ∧ v (x0 + 32) (wr_ ((wr_ (4 * (v x0 52))) + x3)) < 8) (
      lt_ (up_ v (x0 + 31) (v (x0 + 32) (wr_ ((wr_ (4 * (v x0 52))) + x3))) x3) fun v17 =>
      lt_ (wr_ (x3 + 1)) fun y18 =>
      (fX12_fillsTraces_104 k38 n) x0 y18 v17))))
def fX12_fillsTraces_77 (k38 : Int → Int → V_ → Option (Int × V_)) : Nat → Int → Int → V_ → Option (Int × V_)
  | 0, _, _, _ => none
  | n + 1, x0, x2, v =>
    if x2 = 0 then (
      fX12_fillsTraces_104 k38 fu_ x0 0 v)
    else (
      ck_ (0 ≤ v x0 52 ∧ v x0 52 < 8) (
      if 4 ≤ (v (x0 + 33) (v x0 52)) then (
        fX12_fillsTraces_104 k38 fu_ x0 0 v)
      else (
        bd_ (fX12_growsAhead x0 v) fun q22 =>
        (fX12_fillsTraces_77 k38 n) x0 q22.1 q22.2)))
def fX12_fillsTraces_50 (k38 : Int → Int → V_ → Option (Int × V_)) : Nat → Int → Int → V_ → Option (Int × V_)
  | 0, _, _, _ => none
  | n + 1, x0, x2, v =>
    if x2 = 0 then (
      fX12_fillsTraces_77 k38 fu_ x0 1 v)
    else (
      ck_ (0 ≤ v x0 52 ∧ v x0 52 < 8) (
      if 4 ≤ (v (x0 + 33) (v x0 52)) then (
        fX12_fillsTraces_77 k38 fu_ x0 1 v)
      else (
        bd_ (fX12_growsBehind x0 v) fun q26 =>
        (fX12_fillsTraces_50 k38 n) x0 q26.1 q26.2)))
def fX12_fillsTraces_38 : Nat → Int → Int → V_ → Option (Int × V_)
  | 0, _, _, _ => none
  | n + 1, x0, x1, v =>
    if x1 < 0 then (
      some (0, v))
    else (
      bd_ (fX12_joinsAt x0 0 x1 v) fun q5 =>
      fX12_fillsTraces_50 (fX12_fillsTraces_38 n) fu_ x0 1 q5.2)
def fX12_fillsTraces_2 : Nat → Int → Int → V_ → Option (Int × V_)
  | 0, _, _, _ => none
  | n + 1, x0, x1, v =>
    if 8 ≤ x1 then (
      lt_ (up_ v x0 52 0) fun v2 =>
      bd_ (fX12_seedBlock x0 v2) fun q3 =>
      fX12_fillsTraces_38 fu_ x0 q3.1 q3.2)
    else (
      ck_ (0 ≤ x1 ∧ x1 < 8) (
      lt_ (up_ v (x0 + 30) x1 (-1)) fun v29 =>
      ck_ (0 ≤ x1 ∧ x1 < 8) (
      lt_ (up_ v29 (x0 + 33) x1 0) fun v32 =>
      lt_ (wr_ (x1 + 1)) fun y33 =>
      (fX12_fillsTraces_2 n) x0 y33 v32)))
def fX12_fillsTraces (x0 : Int) (v : V_) : Option (Int × V_) :=
  fX12_fillsTraces_2 fu_ x0 0 v
section
variable {E : En_} {p : Program} {l : Launch} {e : Env} {s : State} {m : MethodId} {args : Array Value} {below : List Frame} {meth : Method} {c : Code} {sz : Int}
theorem tX12_fillsTraces_104 (C : MC_ E p s m c cX12_fillsTraces 4 RX12) (hr : meth.sig.returnType = (none : Option FieldType)) (hlk : meth.locks = false) (hC : Cl_ E.2.2.2.2.2 sz) {out : Int × V_} (k38 : Int → Int → V_ → Option (Int × V_)) (H_38 : ∀ (x0 x1 : Int) (v : V_), (E.2.2.2.2.2 x0 ∧ ty_ x0 = 12 ∧ ln_ x0 = 0) → k38 x0 x1 v = some out → G_ E p l e (rm_ 4 89) s m args below meth c 4 sz (Q_ E below args s sz sz 9 out.1 out.2) 38 [(0, (2, x0)), (1, (0, x1))] [] v sz) : ∀ (n : Nat) (x0 x3 : Int) (v : V_), (E.2.2.2.2.2 x0 ∧ ty_ x0 = 12 ∧ ln_ x0 = 0) → fX12_fillsTraces_104 k38 n x0 x3 v = some out → G_ E p l e (rm_ 4 89) s m args below meth c 4 sz (Q_ E below args s sz sz 9 out.1 out.2) 104 [(0, (2, x0)), (3, (0, x3))] [] v sz := by
  intro n
  induction n with
  | zero =>
    intro x0 x3 v T0 h
    cases h
  | succ n H_104 =>
    intro x0 x3 v T0 h
    rw [fX12_fillsTraces_104] at h
    refine g_iload_n C (f := 3) dX12_fillsTraces_104 1 rfl ?_
    refine g_aload_n C (f := 0) dX12_fillsTraces_105 0 rfl ?_
    have F8 := fX12_51 hC T0.1 T0.2.1
    refine g_getR C (k := 51) (o := 33) okX12 (by decide) kf_RX12_115 dX12_fillsTraces_106 hC T0.1 T0.2.1 rfl rfl ?_
    refine g_aload_n C (f := 0) dX12_fillsTraces_109 0 rfl ?_
    refine g_getf C (k := 52) (kd := 0) okX12 (by decide) kf_RX12_402 dX12_fillsTraces_110 (rg_ hC T0.1) T0.2.1 rfl ?_
    obtain ⟨c9, h⟩ := ck_e h
    refine g_iald C 8 dX12_fillsTraces_113 (rg_ hC F8.1) F8.2.1 F8.2.2 c9 ?_
    refine g_icmp_ge C 142 dX12_fillsTraces_114 rfl (fun c10 => ?_) (fun c10 => ?_)
    · replace h := if_t h c10
      refine g_aload_n C (f := 0) dX12_fillsTraces_142 0 rfl ?_
      refine g_dup C (Nat.ne_of_beq_eq_false rfl) dX12_fillsTraces_143 ?_
      refine g_getf C (k := 52) (kd := 0) okX12 (by decide) kf_RX12_402 dX12_fillsTraces_144 (rg_ hC T0.1) T0.2.1 rfl ?_
      refine g_iconst C (n := 1) dX12_fillsTraces_147 (by decide) ?_
      refine g_iadd C dX12_fillsTraces_148 ?_
      obtain ⟨v11, ev11, h⟩ := lt_e h
      refine g_putf C (k := 52) (kd := 0) okX12 (by decide) kf_RX12_402 dX12_fillsTraces_149 (rg_ hC T0.1) T0.2.1 rfl rfl nvI (Or.inl rfl) v11 ev11 ?_
      refine g_aload_n C (f := 0) dX12_fillsTraces_152 0 rfl ?_
      obtain ⟨q12, eq12, h⟩ := bd_e h
      refine g_cV C [] (cX12_seedBlock_ok l hC T0 eq12) okX12 T0.2.1 (rg_ hC T0.1) km_RX12_421 cv_X12_seedBlock rfl (by decide) rfl rfl (Nat.le_of_ble_eq_true rfl) dX12_fillsTraces_153 ?_
      refine g_istore_n C (f := 1) (ls' := [(1, (0, q12.1)), (0, (2, x0)), (3, (0, x3))]) dX12_fillsTraces_156 (by decide) rfl ?_
      refine g_goto C 38 dX12_fillsTraces_157 rfl ?_
      refine g_sub [1, 0] rfl rfl ?_
      exact H_38 _ _ _ T0 h
    · replace h := if_f h c10
      refine g_aload_n C (f := 0) dX12_fillsTraces_117 0 rfl ?_
      have F13 := fX12_49 hC T0.1 T0.2.1
      refine g_getR C (k := 49) (o := 31) okX12 (by decide) kf_RX12_109 dX12_fillsTraces_118 hC T0.1 T0.2.1 rfl rfl ?_
      refine g_aload_n C (f := 0) dX12_fillsTraces_121 0 rfl ?_
      have F14 := fX12_50 hC T0.1 T0.2.1
      refine g_getR C (k := 50) (o := 32) okX12 (by decide) kf_RX12_112 dX12_fillsTraces_122 hC T0.1 T0.2.1 rfl rfl ?_
      refine g_iconst C (n := 4) dX12_fillsTraces_125 (by decide) ?_
      refine g_aload_n C (f := 0) dX12_fillsTraces_126 0 rfl ?_
      refine g_getf C (k := 52) (kd := 0) okX12 (by decide) kf_RX12_402 dX12_fillsTraces_127 (rg_ hC T0.1) T0.2.1 rfl ?_
      refine g_imul C dX12_fillsTraces_130 ?_
      refine g_iload_n C (f := 3) dX12_fillsTraces_131 1 rfl ?_
      refine g_iadd C dX12_fillsTraces_132 ?_
      obtain ⟨c15, h⟩ := ck_e h
      refine g_iald C 32 dX12_fillsTraces_133 (rg_ hC F14.1) F14.2.1 F14.2.2 c15 ?_
      refine g_iload_n C (f := 3) dX12_fillsTraces_134 1 rfl ?_
      obtain ⟨c16, h⟩ := ck_e h
      obtain ⟨v17, ev17, h⟩ := lt_e h
      refine g_iast C 8 dX12_fillsTraces_135 (rg_ hC F13.1) F13.2.1 F13.2.2 c16 v17 ev17 ?_
      obtain ⟨y18, ey18, h⟩ := lt_e h
      refine g_iincx C (ls' := [(3, (0, y18)), (0, (2, x0))]) ey18 dX12_fillsTraces_136 1 rfl (by decide) (by decide) rfl ?_
      refine g_goto C 104 dX12_fillsTraces_139 rfl ?_
      refine g_sub [1, 0] rfl rfl ?_
      exact H_104 _ _ _ T0 h
theorem tX12_fillsTraces_77 (C : MC_ E p s m c cX12_fillsTraces 4 RX12) (hr : meth.sig.returnType = (none : Option FieldType)) (hlk : meth.locks = false) (hC : Cl_ E.2.2.2.2.2 sz) {out : Int × V_} (k38 : Int → Int → V_ → Option (Int × V_)) (H_38 : ∀ (x0 x1 : Int) (v : V_), (E.2.2.2.2.2 x0 ∧ ty_ x0 = 12 ∧ ln_ x0 = 0) → k38 x0 x1 v = some out → G_ E p l e (rm_ 4 89) s m args below meth c 4 sz (Q_ E below args s sz sz 9 out.1 out.2) 38 [(0, (2, x0)), (1, (0, x1))] [] v sz) : ∀ (n : Nat) (x0 x2 : Int) (v : V_), (E.2.2.2.2.2 x0 ∧ ty_ x0 = 12 ∧ ln_ x0 = 0) → fX12_fillsTraces_77 k38 n x0 x2 v = some out → G_ E p l e (rm_ 4 89) s m args below meth c 4 sz (Q_ E below args s sz sz 9 out.1 out.2) 77 [(0, (2, x0)), (2, (0, x2))] [] v sz := by
  intro n
  induction n with
  | zero =>
    intro x0 x2 v T0 h
    cases h
  | succ n H_77 =>
    intro x0 x2 v T0 h
    rw [fX12_fillsTraces_77] at h
    refine g_iload_n C (f := 2) dX12_fillsTraces_77 1 rfl ?_
    refine g_if_eq C 102 dX12_fillsTraces_78 rfl (fun c7 => ?_) (fun c7 => ?_)
    · replace h := if_t h c7
      refine g_iconst C (n := 0) dX12_fillsTraces_102 (by decide) ?_
      refine g_istore_n C (f := 3) (ls' := [(3, (0, 0)), (0, (2, x0)), (2, (0, x2))]) dX12_fillsTraces_103 (by decide) rfl ?_
      refine g_sub [1, 0] rfl rfl ?_
      exact tX12_fillsTraces_104 C hr hlk hC _ H_38 _ _ _ _ T0 h
    · replace h := if_f h c7
      refine g_aload_n C (f := 0) dX12_fillsTraces_81 0 rfl ?_
      have F19 := fX12_51 hC T0.1 T0.2.1
      refine g_getR C (k := 51) (o := 33) okX12 (by decide) kf_RX12_115 dX12_fillsTraces_82 hC T0.1 T0.2.1 rfl rfl ?_
      refine g_aload_n C (f := 0) dX12_fillsTraces_85 0 rfl ?_
      refine g_getf C (k := 52) (kd := 0) okX12 (by decide) kf_RX12_402 dX12_fillsTraces_86 (rg_ hC T0.1) T0.2.1 rfl ?_
      obtain ⟨c20, h⟩ := ck_e h
      refine g_iald C 8 dX12_fillsTraces_89 (rg_ hC F19.1) F19.2.1 F19.2.2 c20 ?_
      refine g_iconst C (n := 4) dX12_fillsTraces_90 (by decide) ?_
      refine g_icmp_ge C 102 dX12_fillsTraces_91 rfl (fun c21 => ?_) (fun c21 => ?_)
      · replace h := if_t h c21
        refine g_iconst C (n := 0) dX12_fillsTraces_102 (by decide) ?_
        refine g_istore_n C (f := 3) (ls' := [(3, (0, 0)), (0, (2, x0)), (2, (0, x2))]) dX12_fillsTraces_103 (by decide) rfl ?_
        refine g_sub [1, 0] rfl rfl ?_
        exact tX12_fillsTraces_104 C hr hlk hC _ H_38 _ _ _ _ T0 h
      · replace h := if_f h c21
        refine g_aload_n C (f := 0) dX12_fillsTraces_94 0 rfl ?_
        obtain ⟨q22, eq22, h⟩ := bd_e h
        refine g_cV C [] (cX12_growsAhead_ok l hC T0 eq22) okX12 T0.2.1 (rg_ hC T0.1) km_RX12_427 cv_X12_growsAhead rfl (by decide) rfl rfl (Nat.le_of_ble_eq_true rfl) dX12_fillsTraces_95 ?_
        refine g_istore_n C (f := 2) (ls' := [(2, (0, q22.1)), (0, (2, x0))]) dX12_fillsTraces_98 (by decide) rfl ?_
        refine g_goto C 77 dX12_fillsTraces_99 rfl ?_
        refine g_sub [1, 0] rfl rfl ?_
        exact H_77 _ _ _ T0 h
theorem tX12_fillsTraces_50 (C : MC_ E p s m c cX12_fillsTraces 4 RX12) (hr : meth.sig.returnType = (none : Option FieldType)) (hlk : meth.locks = false) (hC : Cl_ E.2.2.2.2.2 sz) {out : Int × V_} (k38 : Int → Int → V_ → Option (Int × V_)) (H_38 : ∀ (x0 x1 : Int) (v : V_), (E.2.2.2.2.2 x0 ∧ ty_ x0 = 12 ∧ ln_ x0 = 0) → k38 x0 x1 v = some out → G_ E p l e (rm_ 4 89) s m args below meth c 4 sz (Q_ E below args s sz sz 9 out.1 out.2) 38 [(0, (2, x0)), (1, (0, x1))] [] v sz) : ∀ (n : Nat) (x0 x2 : Int) (v : V_), (E.2.2.2.2.2 x0 ∧ ty_ x0 = 12 ∧ ln_ x0 = 0) → fX12_fillsTraces_50 k38 n x0 x2 v = some out → G_ E p l e (rm_ 4 89) s m args below meth c 4 sz (Q_ E below args s sz sz 9 out.1 out.2) 50 [(0, (2, x0)), (2, (0, x2))] [] v sz := by
  intro n
  induction n with
  | zero =>
    intro x0 x2 v T0 h
    cases h
  | succ n H_50 =>
    intro x0 x2 v T0 h
    rw [fX12_fillsTraces_50] at h
    refine g_iload_n C (f := 2) dX12_fillsTraces_50 1 rfl ?_
    refine g_if_eq C 75 dX12_fillsTraces_51 rfl (fun c6 => ?_) (fun c6 => ?_)
    · replace h := if_t h c6
      refine g_iconst C (n := 1) dX12_fillsTraces_75 (by decide) ?_
      refine g_istore_n C (f := 2) (ls' := [(2, (0, 1)), (0, (2, x0))]) dX12_fillsTraces_76 (by decide) rfl ?_
      refine g_sub [1, 0] rfl rfl ?_
      exact tX12_fillsTraces_77 C hr hlk hC _ H_38 _ _ _ _ T0 h
    · replace h := if_f h c6
      refine g_aload_n C (f := 0) dX12_fillsTraces_54 0 rfl ?_
      have F23 := fX12_51 hC T0.1 T0.2.1
      refine g_getR C (k := 51) (o := 33) okX12 (by decide) kf_RX12_115 dX12_fillsTraces_55 hC T0.1 T0.2.1 rfl rfl ?_
      refine g_aload_n C (f := 0) dX12_fillsTraces_58 0 rfl ?_
      refine g_getf C (k := 52) (kd := 0) okX12 (by decide) kf_RX12_402 dX12_fillsTraces_59 (rg_ hC T0.1) T0.2.1 rfl ?_
      obtain ⟨c24, h⟩ := ck_e h
      refine g_iald C 8 dX12_fillsTraces_62 (rg_ hC F23.1) F23.2.1 F23.2.2 c24 ?_
      refine g_iconst C (n := 4) dX12_fillsTraces_63 (by decide) ?_
      refine g_icmp_ge C 75 dX12_fillsTraces_64 rfl (fun c25 => ?_) (fun c25 => ?_)
      · replace h := if_t h c25
        refine g_iconst C (n := 1) dX12_fillsTraces_75 (by decide) ?_
        refine g_istore_n C (f := 2) (ls' := [(2, (0, 1)), (0, (2, x0))]) dX12_fillsTraces_76 (by decide) rfl ?_
        refine g_sub [1, 0] rfl rfl ?_
        exact tX12_fillsTraces_77 C hr hlk hC _ H_38 _ _ _ _ T0 h
      · replace h := if_f h c25
        refine g_aload_n C (f := 0) dX12_fillsTraces_67 0 rfl ?_
        obtain ⟨q26, eq26, h⟩ := bd_e h
        refine g_cV C [] (cX12_growsBehind_ok l hC T0 eq26) okX12 T0.2.1 (rg_ hC T0.1) km_RX12_424 cv_X12_growsBehind rfl (by decide) rfl rfl (Nat.le_of_ble_eq_true rfl) dX12_fillsTraces_68 ?_
        refine g_istore_n C (f := 2) (ls' := [(2, (0, q26.1)), (0, (2, x0))]) dX12_fillsTraces_71 (by decide) rfl ?_
        refine g_goto C 50 dX12_fillsTraces_72 rfl ?_
        refine g_sub [1, 0] rfl rfl ?_
        exact H_50 _ _ _ T0 h
theorem tX12_fillsTraces_38 (C : MC_ E p s m c cX12_fillsTraces 4 RX12) (hr : meth.sig.returnType = (none : Option FieldType)) (hlk : meth.locks = false) (hC : Cl_ E.2.2.2.2.2 sz) {out : Int × V_} : ∀ (n : Nat) (x0 x1 : Int) (v : V_), (E.2.2.2.2.2 x0 ∧ ty_ x0 = 12 ∧ ln_ x0 = 0) → fX12_fillsTraces_38 n x0 x1 v = some out → G_ E p l e (rm_ 4 89) s m args below meth c 4 sz (Q_ E below args s sz sz 9 out.1 out.2) 38 [(0, (2, x0)), (1, (0, x1))] [] v sz := by
  intro n
  induction n with
  | zero =>
    intro x0 x1 v T0 h
    cases h
  | succ n H_38 =>
    intro x0 x1 v T0 h
    rw [fX12_fillsTraces_38] at h
    refine g_iload_n C (f := 1) dX12_fillsTraces_38 1 rfl ?_
    refine g_if_lt C 160 dX12_fillsTraces_39 rfl (fun c4 => ?_) (fun c4 => ?_)
    · replace h := if_t h c4
      cases h
      exact g_vret C dX12_fillsTraces_160 hr hlk
    · replace h := if_f h c4
      refine g_aload_n C (f := 0) dX12_fillsTraces_42 0 rfl ?_
      refine g_iconst C (n := 0) dX12_fillsTraces_43 (by decide) ?_
      refine g_iload_n C (f := 1) dX12_fillsTraces_44 1 rfl ?_
      obtain ⟨q5, eq5, h⟩ := bd_e h
      refine g_cV C [(0, 0), (0, x1)] (cX12_joinsAt_ok l hC T0 eq5) okX12 T0.2.1 (rg_ hC T0.1) km_RX12_412 cv_X12_joinsAt rfl (by decide) rfl rfl (Nat.le_of_ble_eq_true rfl) dX12_fillsTraces_45 ?_
      refine g_iconst C (n := 1) dX12_fillsTraces_48 (by decide) ?_
      refine g_istore_n C (f := 2) (ls' := [(2, (0, 1)), (0, (2, x0)), (1, (0, x1))]) dX12_fillsTraces_49 (by decide) rfl ?_
      refine g_sub [1, 0] rfl rfl ?_
      exact tX12_fillsTraces_50 C hr hlk hC _ H_38 _ _ _ _ T0 h
theorem tX12_fillsTraces_2 (C : MC_ E p s m c cX12_fillsTraces 4 RX12) (hr : meth.sig.returnType = (none : Option FieldType)) (hlk : meth.locks = false) (hC : Cl_ E.2.2.2.2.2 sz) {out : Int × V_} : ∀ (n : Nat) (x0 x1 : Int) (v : V_), (E.2.2.2.2.2 x0 ∧ ty_ x0 = 12 ∧ ln_ x0 = 0) → fX12_fillsTraces_2 n x0 x1 v = some out → G_ E p l e (rm_ 4 89) s m args below meth c 4 sz (Q_ E below args s sz sz 9 out.1 out.2) 2 [(0, (2, x0)), (1, (0, x1))] [] v sz := by
  intro n
  induction n with
  | zero =>
    intro x0 x1 v T0 h
    cases h
  | succ n H_2 =>
    intro x0 x1 v T0 h
    rw [fX12_fillsTraces_2] at h
    refine g_iload_n C (f := 1) dX12_fillsTraces_2 1 rfl ?_
    refine g_bipush C (n := 8) dX12_fillsTraces_3 (by decide) ?_
    refine g_icmp_ge C 28 dX12_fillsTraces_5 rfl (fun c1 => ?_) (fun c1 => ?_)
    · replace h := if_t h c1
      refine g_aload_n C (f := 0) dX12_fillsTraces_28 0 rfl ?_
      refine g_iconst C (n := 0) dX12_fillsTraces_29 (by decide) ?_
      obtain ⟨v2, ev2, h⟩ := lt_e h
      refine g_putf C (k := 52) (kd := 0) okX12 (by decide) kf_RX12_402 dX12_fillsTraces_30 (rg_ hC T0.1) T0.2.1 rfl rfl nvI (Or.inl rfl) v2 ev2 ?_
      refine g_aload_n C (f := 0) dX12_fillsTraces_33 0 rfl ?_
      obtain ⟨q3, eq3, h⟩ := bd_e h
      refine g_cV C [] (cX12_seedBlock_ok l hC T0 eq3) okX12 T0.2.1 (rg_ hC T0.1) km_RX12_421 cv_X12_seedBlock rfl (by decide) rfl rfl (Nat.le_of_ble_eq_true rfl) dX12_fillsTraces_34 ?_
      refine g_istore_n C (f := 1) (ls' := [(1, (0, q3.1)), (0, (2, x0))]) dX12_fillsTraces_37 (by decide) rfl ?_
      refine g_sub [1, 0] rfl rfl ?_
      exact tX12_fillsTraces_38 C hr hlk hC _ _ _ _ T0 h
    · replace h := if_f h c1
      refine g_aload_n C (f := 0) dX12_fillsTraces_8 0 rfl ?_
      have F27 := fX12_48 hC T0.1 T0.2.1
      refine g_getR C (k := 48) (o := 30) okX12 (by decide) kf_RX12_106 dX12_fillsTraces_9 hC T0.1 T0.2.1 rfl rfl ?_
      refine g_iload_n C (f := 1) dX12_fillsTraces_12 1 rfl ?_
      refine g_iconst C (n := (-1)) dX12_fillsTraces_13 (by decide) ?_
      obtain ⟨c28, h⟩ := ck_e h
      obtain ⟨v29, ev29, h⟩ := lt_e h
      refine g_iast C 8 dX12_fillsTraces_14 (rg_ hC F27.1) F27.2.1 F27.2.2 c28 v29 ev29 ?_
      refine g_aload_n C (f := 0) dX12_fillsTraces_15 0 rfl ?_
      have F30 := fX12_51 hC T0.1 T0.2.1
      refine g_getR C (k := 51) (o := 33) okX12 (by decide) kf_RX12_115 dX12_fillsTraces_16 hC T0.1 T0.2.1 rfl rfl ?_
      refine g_iload_n C (f := 1) dX12_fillsTraces_19 1 rfl ?_
      refine g_iconst C (n := 0) dX12_fillsTraces_20 (by decide) ?_
      obtain ⟨c31, h⟩ := ck_e h
      obtain ⟨v32, ev32, h⟩ := lt_e h
      refine g_iast C 8 dX12_fillsTraces_21 (rg_ hC F30.1) F30.2.1 F30.2.2 c31 v32 ev32 ?_
      obtain ⟨y33, ey33, h⟩ := lt_e h
      refine g_iincx C (ls' := [(1, (0, y33)), (0, (2, x0))]) ey33 dX12_fillsTraces_22 1 rfl (by decide) (by decide) rfl ?_
      refine g_goto C 2 dX12_fillsTraces_25 rfl ?_
      refine g_sub [1, 0] rfl rfl ?_
      exact H_2 _ _ _ T0 h
end
theorem cX12_fillsTraces_ok (l : Launch) {E : En_} {sz : Int} (hC : Cl_ E.2.2.2.2.2 sz) {x0 : Int} {v : V_} {out : Int × V_} (T0 : (E.2.2.2.2.2 x0 ∧ ty_ x0 = 12 ∧ ln_ x0 = 0)) (h : fX12_fillsTraces x0 v = some out) : Met l yX12_fillsTraces [.code yX12_fillsTraces cX12_fillsTraces 4 (none : Option FieldType)] (rm_ 4 89) (Pc_ E sz v [(2, x0)]) (Qc_ E sz 9 out.1 out.2) 0 0 (fun q => E.1 < q) := by
  refine met_G0 RX12 (by decide +kernel) rfl (Nat.le_of_ble_eq_true rfl) ?_
  intro p e s m args below meth c C hr hlk
  rw [fX12_fillsTraces] at h
  refine g_iconst C (n := 0) dX12_fillsTraces_0 (by decide) ?_
  refine g_istore_n C (f := 1) (ls' := [(1, (0, 0)), (0, (2, x0))]) dX12_fillsTraces_1 (by decide) rfl ?_
  refine g_sub [1, 0] rfl rfl ?_
  exact tX12_fillsTraces_2 C hr hlk hC _ _ _ _ T0 h
