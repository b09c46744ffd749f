theorem dX12_canBeLaid_0 : decode cX12_canBeLaid 0 = .ok (.bipush 34, 2) := by decide +kernel
theorem dX12_canBeLaid_2 : decode cX12_canBeLaid 2 = .ok (.iload_n 1, 1) := by decide +kernel
theorem dX12_canBeLaid_3 : decode cX12_canBeLaid 3 = .ok (.imul, 1) := by decide +kernel
theorem dX12_canBeLaid_4 : decode cX12_canBeLaid 4 = .ok (.iload_n 2, 1) := by decide +kernel
theorem dX12_canBeLaid_5 : decode cX12_canBeLaid 5 = .ok (.iadd, 1) := by decide +kernel
theorem dX12_canBeLaid_6 : decode cX12_canBeLaid 6 = .ok (.istore 4, 2) := by decide +kernel
theorem dX12_canBeLaid_8 : decode cX12_canBeLaid 8 = .ok (.aload_n 0, 1) := by decide +kernel
theorem dX12_canBeLaid_9 : decode cX12_canBeLaid 9 = .ok (.getfield 148, 3) := by decide +kernel
theorem dX12_canBeLaid_12 : decode cX12_canBeLaid 12 = .ok (.iload 4, 2) := by decide +kernel
theorem dX12_canBeLaid_14 : decode cX12_canBeLaid 14 = .ok (.iaload, 1) := by decide +kernel
theorem dX12_canBeLaid_15 : decode cX12_canBeLaid 15 = .ok (.ifCond .ge 33, 3) := by decide +kernel
theorem dX12_canBeLaid_18 : decode cX12_canBeLaid 18 = .ok (.aload_n 0, 1) := by decide +kernel
theorem dX12_canBeLaid_19 : decode cX12_canBeLaid 19 = .ok (.getfield 163, 3) := by decide +kernel
theorem dX12_canBeLaid_22 : decode cX12_canBeLaid 22 = .ok (.aload_n 0, 1) := by decide +kernel
theorem dX12_canBeLaid_23 : decode cX12_canBeLaid 23 = .ok (.getfield 127, 3) := by decide +kernel
theorem dX12_canBeLaid_26 : decode cX12_canBeLaid 26 = .ok (.iload 4, 2) := by decide +kernel
theorem dX12_canBeLaid_28 : decode cX12_canBeLaid 28 = .ok (.iaload, 1) := by decide +kernel
theorem dX12_canBeLaid_29 : decode cX12_canBeLaid 29 = .ok (.iaload, 1) := by decide +kernel
theorem dX12_canBeLaid_30 : decode cX12_canBeLaid 30 = .ok (.aload_n 0, 1) := by decide +kernel
theorem dX12_canBeLaid_31 : decode cX12_canBeLaid 31 = .ok (.getfield 88, 3) := by decide +kernel
theorem dX12_canBeLaid_34 : decode cX12_canBeLaid 34 = .ok (.bipush 39, 2) := by decide +kernel
theorem dX12_canBeLaid_36 : decode cX12_canBeLaid 36 = .ok (.aload_n 0, 1) := by decide +kernel
theorem dX12_canBeLaid_37 : decode cX12_canBeLaid 37 = .ok (.getfield 127, 3) := by decide +kernel
theorem dX12_canBeLaid_40 : decode cX12_canBeLaid 40 = .ok (.iload 4, 2) := by decide +kernel
theorem dX12_canBeLaid_42 : decode cX12_canBeLaid 42 = .ok (.iaload, 1) := by decide +kernel
theorem dX12_canBeLaid_43 : decode cX12_canBeLaid 43 = .ok (.iadd, 1) := by decide +kernel
theorem dX12_canBeLaid_44 : decode cX12_canBeLaid 44 = .ok (.iaload, 1) := by decide +kernel
theorem dX12_canBeLaid_45 : decode cX12_canBeLaid 45 = .ok (.if_icmp .lt 5, 3) := by decide +kernel
theorem dX12_canBeLaid_48 : decode cX12_canBeLaid 48 = .ok (.iconst 0, 1) := by decide +kernel
theorem dX12_canBeLaid_49 : decode cX12_canBeLaid 49 = .ok (.ireturn, 1) := by decide +kernel
theorem dX12_canBeLaid_50 : decode cX12_canBeLaid 50 = .ok (.iconst 0, 1) := by decide +kernel
theorem dX12_canBeLaid_51 : decode cX12_canBeLaid 51 = .ok (.istore 5, 2) := by decide +kernel
theorem dX12_canBeLaid_53 : decode cX12_canBeLaid 53 = .ok (.iload 5, 2) := by decide +kernel
theorem dX12_canBeLaid_55 : decode cX12_canBeLaid 55 = .ok (.iload_n 2, 1) := by decide +kernel
theorem dX12_canBeLaid_56 : decode cX12_canBeLaid 56 = .ok (.if_icmp .ge 70, 3) := by decide +kernel
theorem dX12_canBeLaid_59 : decode cX12_canBeLaid 59 = .ok (.aload_n 0, 1) := by decide +kernel
theorem dX12_canBeLaid_60 : decode cX12_canBeLaid 60 = .ok (.getfield 160, 3) := by decide +kernel
theorem dX12_canBeLaid_63 : decode cX12_canBeLaid 63 = .ok (.bipush 34, 2) := by decide +kernel
theorem dX12_canBeLaid_65 : decode cX12_canBeLaid 65 = .ok (.iload 5, 2) := by decide +kernel
theorem dX12_canBeLaid_67 : decode cX12_canBeLaid 67 = .ok (.imul, 1) := by decide +kernel
theorem dX12_canBeLaid_68 : decode cX12_canBeLaid 68 = .ok (.iload_n 2, 1) := by decide +kernel
theorem dX12_canBeLaid_69 : decode cX12_canBeLaid 69 = .ok (.iadd, 1) := by decide +kernel
theorem dX12_canBeLaid_70 : decode cX12_canBeLaid 70 = .ok (.iaload, 1) := by decide +kernel
theorem dX12_canBeLaid_71 : decode cX12_canBeLaid 71 = .ok (.ifCond .lt 49, 3) := by decide +kernel
theorem dX12_canBeLaid_74 : decode cX12_canBeLaid 74 = .ok (.aload_n 0, 1) := by decide +kernel
theorem dX12_canBeLaid_75 : decode cX12_canBeLaid 75 = .ok (.getfield 148, 3) := by decide +kernel
theorem dX12_canBeLaid_78 : decode cX12_canBeLaid 78 = .ok (.bipush 34, 2) := by decide +kernel
theorem dX12_canBeLaid_80 : decode cX12_canBeLaid 80 = .ok (.iload_n 1, 1) := by decide +kernel
theorem dX12_canBeLaid_81 : decode cX12_canBeLaid 81 = .ok (.imul, 1) := by decide +kernel
theorem dX12_canBeLaid_82 : decode cX12_canBeLaid 82 = .ok (.iload 5, 2) := by decide +kernel
theorem dX12_canBeLaid_84 : decode cX12_canBeLaid 84 = .ok (.iadd, 1) := by decide +kernel
theorem dX12_canBeLaid_85 : decode cX12_canBeLaid 85 = .ok (.iaload, 1) := by decide +kernel
theorem dX12_canBeLaid_86 : decode cX12_canBeLaid 86 = .ok (.ifCond .lt 32, 3) := by decide +kernel
theorem dX12_canBeLaid_89 : decode cX12_canBeLaid 89 = .ok (.aload_n 0, 1) := by decide +kernel
theorem dX12_canBeLaid_90 : decode cX12_canBeLaid 90 = .ok (.getfield 148, 3) := by decide +kernel
theorem dX12_canBeLaid_93 : decode cX12_canBeLaid 93 = .ok (.bipush 34, 2) := by decide +kernel
theorem dX12_canBeLaid_95 : decode cX12_canBeLaid 95 = .ok (.iload_n 1, 1) := by decide +kernel
theorem dX12_canBeLaid_96 : decode cX12_canBeLaid 96 = .ok (.imul, 1) := by decide +kernel
theorem dX12_canBeLaid_97 : decode cX12_canBeLaid 97 = .ok (.iload 5, 2) := by decide +kernel
theorem dX12_canBeLaid_99 : decode cX12_canBeLaid 99 = .ok (.iadd, 1) := by decide +kernel
theorem dX12_canBeLaid_100 : decode cX12_canBeLaid 100 = .ok (.iaload, 1) := by decide +kernel
theorem dX12_canBeLaid_101 : decode cX12_canBeLaid 101 = .ok (.aload_n 0, 1) := by decide +kernel
theorem dX12_canBeLaid_102 : decode cX12_canBeLaid 102 = .ok (.getfield 160, 3) := by decide +kernel
theorem dX12_canBeLaid_105 : decode cX12_canBeLaid 105 = .ok (.bipush 34, 2) := by decide +kernel
theorem dX12_canBeLaid_107 : decode cX12_canBeLaid 107 = .ok (.iload 5, 2) := by decide +kernel
theorem dX12_canBeLaid_109 : decode cX12_canBeLaid 109 = .ok (.imul, 1) := by decide +kernel
theorem dX12_canBeLaid_110 : decode cX12_canBeLaid 110 = .ok (.iload_n 2, 1) := by decide +kernel
theorem dX12_canBeLaid_111 : decode cX12_canBeLaid 111 = .ok (.iadd, 1) := by decide +kernel
theorem dX12_canBeLaid_112 : decode cX12_canBeLaid 112 = .ok (.iaload, 1) := by decide +kernel
theorem dX12_canBeLaid_113 : decode cX12_canBeLaid 113 = .ok (.iadd, 1) := by decide +kernel
theorem dX12_canBeLaid_114 : decode cX12_canBeLaid 114 = .ok (.iload_n 3, 1) := by decide +kernel
theorem dX12_canBeLaid_115 : decode cX12_canBeLaid 115 = .ok (.if_icmp .le 5, 3) := by decide +kernel
theorem dX12_canBeLaid_118 : decode cX12_canBeLaid 118 = .ok (.iconst 0, 1) := by decide +kernel
theorem dX12_canBeLaid_119 : decode cX12_canBeLaid 119 = .ok (.ireturn, 1) := by decide +kernel
theorem dX12_canBeLaid_120 : decode cX12_canBeLaid 120 = .ok (.iinc 5 1, 3) := by decide +kernel
theorem dX12_canBeLaid_123 : decode cX12_canBeLaid 123 = .ok (.goto (-70), 3) := by decide +kernel
theorem dX12_canBeLaid_126 : decode cX12_canBeLaid 126 = .ok (.iconst 1, 1) := by decide +kernel
theorem dX12_canBeLaid_127 : decode cX12_canBeLaid 127 = .ok (.ireturn, 1) := by decide +kernel
def fX12_canBeLaid_53 : Nat → Int → Int → Int → Int → Int → V_ → Option (Int × V_)
  | 0, _, _, _, _, _, _ => none
  | n + 1, x0, x1, x2, x3, x5, v =>
    if x2 ≤ x5 then (
      some (1, v))
    else (
      ck_ (0 ≤ wr_ ((wr_ (34 * x5)) + x2) ∧ wr_ ((wr_ (34 * x5)) + x2) < 1156) (
      if (v (x0 + 48) (wr_ ((wr_ (34 * x5)) + x2))) < 0 then (
        lt_ (wr_ (x5 + 1)) fun y18 =>
        (fX12_canBeLaid_53 n) x0 x1 x2 x3 y18 v)
      else (
        ck_ (0 ≤ wr_ ((wr_ (34 * x1)) + x5) ∧ wr_ ((wr_ (34 * x1)) + x5) < 272) (
        if (v (x0 + 44) (wr_ ((wr_ (34 * x1)) + x5))) < 0 then (
          some (0, v))
        else (
          ck_ (0 ≤ wr_ ((wr_ (34 * x1)) + x5) ∧ wr_ ((wr_ (34 * x1)) + x5) < 272) (
          ck_ (0 ≤ wr_ ((wr_ (34 * x5)) + x2) ∧ wr_ ((wr_ (34 * x5)) + x2) < 1156) (
          if (wr_ ((v (x0 + 44) (wr_ ((wr_ (34 * x1)) + x5))) + (v (x0 + 48) (wr_ ((wr_ (34 * x5)) + x2))))) ≤ x3 then (
            lt_ (wr_ (x5 + 1)) fun y27 =>
            (fX12_canBeLaid_53 n) x0 x1 x2 x3 y27 v)
          else (
            some (0, v)))))))))
def fX12_canBeLaid (x0 x1 x2 x3 : Int) (v : V_) : Option (Int × V_) :=
  lt_ (wr_ ((wr_ (34 * x1)) + x2)) fun y1 =>
  ck_ (0 ≤ y1 ∧ y1 < 272) (
  if 0 ≤ (v (x0 + 44) y1) then (
    some (0, v))
  else (
    ck_ (0 ≤ y1 ∧ y1 < 272) (
    ck_ (0 ≤ v (x0 + 37) y1 ∧ v (x0 + 37) y1 < 4) (
    ck_ (0 ≤ y1 ∧ y1 < 272) (
    ck_ (0 ≤ wr_ (39 + (v (x0 + 37) y1)) ∧ wr_ (39 + (v (x0 + 37) y1)) < 47) (
    if (v (x0 + 49) (v (x0 + 37) y1)) < (v (x0 + 24) (wr_ (39 + (v (x0 + 37) y1)))) then (
      fX12_canBeLaid_53 fu_ x0 x1 x2 x3 0 v)
    else (
      some (0, v))))))))
section
variable {E : En_} {p : Program} {l : Launch} {e : Env} {s : State} {m : MethodId} {args : Array Value} {below : List Frame} {meth : Method} {c : Code} {sz : Int}
theorem tX12_canBeLaid_53 (C : MC_ E p s m c cX12_canBeLaid 6 RX12) (hr : meth.sig.returnType = (some FieldType.boolean)) (hlk : meth.locks = false) (hC : Cl_ E.2.2.2.2.2 sz) {out : Int × V_} : ∀ (n : Nat) (x0 x1 x2 x3 x5 : Int) (v : V_), (E.2.2.2.2.2 x0 ∧ ty_ x0 = 12 ∧ ln_ x0 = 0) → fX12_canBeLaid_53 n x0 x1 x2 x3 x5 v = some out → G_ E p l e (rm_ 0 0) s m args below meth c 6 sz (Q_ E below args s sz sz 0 out.1 out.2) 53 [(0, (2, x0)), (1, (0, x1)), (2, (0, x2)), (3, (0, x3)), (5, (0, x5))] [] v sz := by
  intro n
  induction n with
  | zero =>
    intro x0 x1 x2 x3 x5 v T0 h
    cases h
  | succ n H_53 =>
    intro x0 x1 x2 x3 x5 v T0 h
    rw [fX12_canBeLaid_53] at h
    refine g_iload C (i := 5) dX12_canBeLaid_53 4 rfl ?_
    refine g_iload_n C (f := 2) dX12_canBeLaid_55 2 rfl ?_
    refine g_icmp_ge C 126 dX12_canBeLaid_56 rfl (fun c14 => ?_) (fun c14 => ?_)
    · replace h := if_t h c14
      refine g_iconst C (n := 1) dX12_canBeLaid_126 (by decide) ?_
      cases h
      exact g_zret C dX12_canBeLaid_127 hr hlk (Or.inr rfl)
    · replace h := if_f h c14
      refine g_aload_n C (f := 0) dX12_canBeLaid_59 0 rfl ?_
      have F15 := fX12_67 hC T0.1 T0.2.1
      refine g_getR C (k := 67) (o := 48) okX12 (by decide) kf_RX12_160 dX12_canBeLaid_60 hC T0.1 T0.2.1 rfl rfl ?_
      refine g_bipush C (n := 34) dX12_canBeLaid_63 (by decide) ?_
      refine g_iload C (i := 5) dX12_canBeLaid_65 4 rfl ?_
      refine g_imul C dX12_canBeLaid_67 ?_
      refine g_iload_n C (f := 2) dX12_canBeLaid_68 2 rfl ?_
      refine g_iadd C dX12_canBeLaid_69 ?_
      obtain ⟨c16, h⟩ := ck_e h
      refine g_iald C 1156 dX12_canBeLaid_70 (rg_ hC F15.1) F15.2.1 F15.2.2 c16 ?_
      refine g_if_lt C 120 dX12_canBeLaid_71 rfl (fun c17 => ?_) (fun c17 => ?_)
      · replace h := if_t h c17
        obtain ⟨y18, ey18, h⟩ := lt_e h
        refine g_iincx C (ls' := [(5, (0, y18)), (0, (2, x0)), (1, (0, x1)), (2, (0, x2)), (3, (0, x3))]) ey18 dX12_canBeLaid_120 4 rfl (by decide) (by decide) rfl ?_
        refine g_goto C 53 dX12_canBeLaid_123 rfl ?_
        refine g_sub [1, 2, 3, 4, 0] rfl rfl ?_
        exact H_53 _ _ _ _ _ _ T0 h
      · replace h := if_f h c17
        refine g_aload_n C (f := 0) dX12_canBeLaid_74 0 rfl ?_
        have F19 := fX12_63 hC T0.1 T0.2.1
        refine g_getR C (k := 63) (o := 44) okX12 (by decide) kf_RX12_148 dX12_canBeLaid_75 hC T0.1 T0.2.1 rfl rfl ?_
        refine g_bipush C (n := 34) dX12_canBeLaid_78 (by decide) ?_
        refine g_iload_n C (f := 1) dX12_canBeLaid_80 1 rfl ?_
        refine g_imul C dX12_canBeLaid_81 ?_
        refine g_iload C (i := 5) dX12_canBeLaid_82 4 rfl ?_
        refine g_iadd C dX12_canBeLaid_84 ?_
        obtain ⟨c20, h⟩ := ck_e h
        refine g_iald C 272 dX12_canBeLaid_85 (rg_ hC F19.1) F19.2.1 F19.2.2 c20 ?_
        refine g_if_lt C 118 dX12_canBeLaid_86 rfl (fun c21 => ?_) (fun c21 => ?_)
        · replace h := if_t h c21
          refine g_iconst C (n := 0) dX12_canBeLaid_118 (by decide) ?_
          cases h
          exact g_zret C dX12_canBeLaid_119 hr hlk (Or.inl rfl)
        · replace h := if_f h c21
          refine g_aload_n C (f := 0) dX12_canBeLaid_89 0 rfl ?_
          have F22 := fX12_63 hC T0.1 T0.2.1
          refine g_getR C (k := 63) (o := 44) okX12 (by decide) kf_RX12_148 dX12_canBeLaid_90 hC T0.1 T0.2.1 rfl rfl ?_
          refine g_bipush C (n := 34) dX12_canBeLaid_93 (by decide) ?_
          refine g_iload_n C (f := 1) dX12_canBeLaid_95 1 rfl ?_
          refine g_imul C dX12_canBeLaid_96 ?_
          refine g_iload C (i := 5) dX12_canBeLaid_97 4 rfl ?_
          refine g_iadd C dX12_canBeLaid_99 ?_
          obtain ⟨c23, h⟩ := ck_e h
          refine g_iald C 272 dX12_canBeLaid_100 (rg_ hC F22.1) F22.2.1 F22.2.2 c23 ?_
          refine g_aload_n C (f := 0) dX12_canBeLaid_101 0 rfl ?_
          have F24 := fX12_67 hC T0.1 T0.2.1
          refine g_getR C (k := 67) (o := 48) okX12 (by decide) kf_RX12_160 dX12_canBeLaid_102 hC T0.1 T0.2.1 rfl rfl ?_
          refine g_bipush C (n := 34) dX12_canBeLaid_105 (by decide) ?_
          refine g_iload C (i := 5) dX12_canBeLaid_107 4 rfl ?_
          refine g_imul C dX12_canBeLaid_109 ?_
          refine g_iload_n C (f := 2) dX12_canBeLaid_110 2 rfl ?_
          refine g_iadd C dX12_canBeLaid_111 ?_
          obtain ⟨c25, h⟩ := ck_e h
          refine g_iald C 1156 dX12_canBeLaid_112 (rg_ hC F24.1) F24.2.1 F24.2.2 c25 ?_
          refine g_iadd C dX12_canBeLaid_113 ?_
          refine g_iload_n C (f := 3) dX12_canBeLaid_114 3 rfl ?_
          refine g_icmp_le C 120 dX12_canBeLaid_115 rfl (fun c26 => ?_) (fun c26 => ?_)
          · replace h := if_t h c26
            obtain ⟨y27, ey27, h⟩ := lt_e h
            refine g_iincx C (ls' := [(5, (0, y27)), (0, (2, x0)), (1, (0, x1)), (2, (0, x2)), (3, (0, x3))]) ey27 dX12_canBeLaid_120 4 rfl (by decide) (by decide) rfl ?_
            refine g_goto C 53 dX12_canBeLaid_123 rfl ?_
            refine g_sub [1, 2, 3, 4, 0] rfl rfl ?_
            exact H_53 _ _ _ _ _ _ T0 h
          · replace h := if_f h c26
            refine g_iconst C (n := 0) dX12_canBeLaid_118 (by decide) ?_
            cases h
            exact g_zret C dX12_canBeLaid_119 hr hlk (Or.inl rfl)
end
theorem cX12_canBeLaid_ok (l : Launch) {E : En_} {sz : Int} (hC : Cl_ E.2.2.2.2.2 sz) {x0 x1 x2 x3 : Int} {v : V_} {out : Int × V_} (T0 : (E.2.2.2.2.2 x0 ∧ ty_ x0 = 12 ∧ ln_ x0 = 0)) (h : fX12_canBeLaid x0 x1 x2 x3 v = some out) : Met l yX12_canBeLaid [.code yX12_canBeLaid cX12_canBeLaid 6 (some FieldType.boolean)] (rm_ 0 0) (Pc_ E sz v [(2, x0), (0, x1), (0, x2), (0, x3)]) (Qc_ E sz 0 out.1 out.2) 0 0 (fun q => E.1 < q) := by
  refine met_G0 RX12 (by decide +kernel) rfl (Nat.le_of_ble_eq_true rfl) ?_
  intro p e s m args below meth c C hr hlk
  rw [fX12_canBeLaid] at h
  refine g_bipush C (n := 34) dX12_canBeLaid_0 (by decide) ?_
  refine g_iload_n C (f := 1) dX12_canBeLaid_2 1 rfl ?_
  refine g_imul C dX12_canBeLaid_3 ?_
  refine g_iload_n C (f := 2) dX12_canBeLaid_4 2 rfl ?_
  refine g_iadd C dX12_canBeLaid_5 ?_
  obtain ⟨y1, ey1, h⟩ := lt_e h
  refine g_set C ey1 ?_
  refine g_istore C (i := 4) (ls' := [(4, (0, y1)), (0, (2, x0)), (1, (0, x1)), (2, (0, x2)), (3, (0, x3))]) dX12_canBeLaid_6 (by decide) rfl ?_
  refine g_aload_n C (f := 0) dX12_canBeLaid_8 1 rfl ?_
  have F2 := fX12_63 hC T0.1 T0.2.1
  refine g_getR C (k := 63) (o := 44) okX12 (by decide) kf_RX12_148 dX12_canBeLaid_9 hC T0.1 T0.2.1 rfl rfl ?_
  refine g_iload C (i := 4) dX12_canBeLaid_12 0 rfl ?_
  obtain ⟨c3, h⟩ := ck_e h
  refine g_iald C 272 dX12_canBeLaid_14 (rg_ hC F2.1) F2.2.1 F2.2.2 c3 ?_
  refine g_if_ge C 48 dX12_canBeLaid_15 rfl (fun c4 => ?_) (fun c4 => ?_)
  · replace h := if_t h c4
    refine g_iconst C (n := 0) dX12_canBeLaid_48 (by decide) ?_
    cases h
    exact g_zret C dX12_canBeLaid_49 hr hlk (Or.inl rfl)
  · replace h := if_f h c4
    refine g_aload_n C (f := 0) dX12_canBeLaid_18 1 rfl ?_
    have F5 := fX12_68 hC T0.1 T0.2.1
    refine g_getR C (k := 68) (o := 49) okX12 (by decide) kf_RX12_163 dX12_canBeLaid_19 hC T0.1 T0.2.1 rfl rfl ?_
    refine g_aload_n C (f := 0) dX12_canBeLaid_22 1 rfl ?_
    have F6 := fX12_56 hC T0.1 T0.2.1
    refine g_getR C (k := 56) (o := 37) okX12 (by decide) kf_RX12_127 dX12_canBeLaid_23 hC T0.1 T0.2.1 rfl rfl ?_
    refine g_iload C (i := 4) dX12_canBeLaid_26 0 rfl ?_
    obtain ⟨c7, h⟩ := ck_e h
    refine g_iald C 272 dX12_canBeLaid_28 (rg_ hC F6.1) F6.2.1 F6.2.2 c7 ?_
    obtain ⟨c8, h⟩ := ck_e h
    refine g_iald C 4 dX12_canBeLaid_29 (rg_ hC F5.1) F5.2.1 F5.2.2 c8 ?_
    refine g_aload_n C (f := 0) dX12_canBeLaid_30 1 rfl ?_
    have F9 := fX12_37 hC T0.1 T0.2.1
    refine g_getR C (k := 37) (o := 24) okX12 (by decide) kf_RX12_88 dX12_canBeLaid_31 hC T0.1 T0.2.1 rfl rfl ?_
    refine g_bipush C (n := 39) dX12_canBeLaid_34 (by decide) ?_
    refine g_aload_n C (f := 0) dX12_canBeLaid_36 1 rfl ?_
    have F10 := fX12_56 hC T0.1 T0.2.1
    refine g_getR C (k := 56) (o := 37) okX12 (by decide) kf_RX12_127 dX12_canBeLaid_37 hC T0.1 T0.2.1 rfl rfl ?_
    refine g_iload C (i := 4) dX12_canBeLaid_40 0 rfl ?_
    obtain ⟨c11, h⟩ := ck_e h
    refine g_iald C 272 dX12_canBeLaid_42 (rg_ hC F10.1) F10.2.1 F10.2.2 c11 ?_
    refine g_iadd C dX12_canBeLaid_43 ?_
    obtain ⟨c12, h⟩ := ck_e h
    refine g_iald C 47 dX12_canBeLaid_44 (rg_ hC F9.1) F9.2.1 F9.2.2 c12 ?_
    refine g_icmp_lt C 50 dX12_canBeLaid_45 rfl (fun c13 => ?_) (fun c13 => ?_)
    · replace h := if_t h c13
      refine g_iconst C (n := 0) dX12_canBeLaid_50 (by decide) ?_
      refine g_istore C (i := 5) (ls' := [(5, (0, 0)), (4, (0, y1)), (0, (2, x0)), (1, (0, x1)), (2, (0, x2)), (3, (0, x3))]) dX12_canBeLaid_51 (by decide) rfl ?_
      refine g_sub [2, 3, 4, 5, 0] rfl rfl ?_
      exact tX12_canBeLaid_53 C hr hlk hC _ _ _ _ _ _ _ T0 h
    · replace h := if_f h c13
      refine g_iconst C (n := 0) dX12_canBeLaid_48 (by decide) ?_
      cases h
      exact g_zret C dX12_canBeLaid_49 hr hlk (Or.inl rfl)
theorem dX12_nextLaid_0 : decode cX12_nextLaid 0 = .ok (.iconst (-1), 1) := by decide +kernel
theorem dX12_nextLaid_1 : decode cX12_nextLaid 1 = .ok (.istore_n 3, 1) := by decide +kernel
theorem dX12_nextLaid_2 : decode cX12_nextLaid 2 = .ok (.iconst 0, 1) := by decide +kernel
theorem dX12_nextLaid_3 : decode cX12_nextLaid 3 = .ok (.istore 4, 2) := by decide +kernel
theorem dX12_nextLaid_5 : decode cX12_nextLaid 5 = .ok (.iload 4, 2) := by decide +kernel
theorem dX12_nextLaid_7 : decode cX12_nextLaid 7 = .ok (.aload_n 0, 1) := by decide +kernel
theorem dX12_nextLaid_8 : decode cX12_nextLaid 8 = .ok (.getfield 118, 3) := by decide +kernel
theorem dX12_nextLaid_11 : decode cX12_nextLaid 11 = .ok (.iload_n 1, 1) := by decide +kernel
theorem dX12_nextLaid_12 : decode cX12_nextLaid 12 = .ok (.iaload, 1) := by decide +kernel
theorem dX12_nextLaid_13 : decode cX12_nextLaid 13 = .ok (.if_icmp .ge 53, 3) := by decide +kernel
theorem dX12_nextLaid_16 : decode cX12_nextLaid 16 = .ok (.aload_n 0, 1) := by decide +kernel
theorem dX12_nextLaid_17 : decode cX12_nextLaid 17 = .ok (.iload_n 1, 1) := by decide +kernel
theorem dX12_nextLaid_18 : decode cX12_nextLaid 18 = .ok (.iload 4, 2) := by decide +kernel
theorem dX12_nextLaid_20 : decode cX12_nextLaid 20 = .ok (.iload_n 2, 1) := by decide +kernel
theorem dX12_nextLaid_21 : decode cX12_nextLaid 21 = .ok (.invokevirtual 470, 3) := by decide +kernel
theorem dX12_nextLaid_24 : decode cX12_nextLaid 24 = .ok (.ifCond .eq 36, 3) := by decide +kernel
theorem dX12_nextLaid_27 : decode cX12_nextLaid 27 = .ok (.iload_n 3, 1) := by decide +kernel
theorem dX12_nextLaid_28 : decode cX12_nextLaid 28 = .ok (.ifCond .lt 29, 3) := by decide +kernel
theorem dX12_nextLaid_31 : decode cX12_nextLaid 31 = .ok (.aload_n 0, 1) := by decide +kernel
theorem dX12_nextLaid_32 : decode cX12_nextLaid 32 = .ok (.getfield 151, 3) := by decide +kernel
theorem dX12_nextLaid_35 : decode cX12_nextLaid 35 = .ok (.bipush 34, 2) := by decide +kernel
theorem dX12_nextLaid_37 : decode cX12_nextLaid 37 = .ok (.iload_n 1, 1) := by decide +kernel
theorem dX12_nextLaid_38 : decode cX12_nextLaid 38 = .ok (.imul, 1) := by decide +kernel
theorem dX12_nextLaid_39 : decode cX12_nextLaid 39 = .ok (.iload 4, 2) := by decide +kernel
theorem dX12_nextLaid_41 : decode cX12_nextLaid 41 = .ok (.iadd, 1) := by decide +kernel
theorem dX12_nextLaid_42 : decode cX12_nextLaid 42 = .ok (.iaload, 1) := by decide +kernel
theorem dX12_nextLaid_43 : decode cX12_nextLaid 43 = .ok (.aload_n 0, 1) := by decide +kernel
theorem dX12_nextLaid_44 : decode cX12_nextLaid 44 = .ok (.getfield 151, 3) := by decide +kernel
theorem dX12_nextLaid_47 : decode cX12_nextLaid 47 = .ok (.bipush 34, 2) := by decide +kernel
theorem dX12_nextLaid_49 : decode cX12_nextLaid 49 = .ok (.iload_n 1, 1) := by decide +kernel
theorem dX12_nextLaid_50 : decode cX12_nextLaid 50 = .ok (.imul, 1) := by decide +kernel
theorem dX12_nextLaid_51 : decode cX12_nextLaid 51 = .ok (.iload_n 3, 1) := by decide +kernel
theorem dX12_nextLaid_52 : decode cX12_nextLaid 52 = .ok (.iadd, 1) := by decide +kernel
theorem dX12_nextLaid_53 : decode cX12_nextLaid 53 = .ok (.iaload, 1) := by decide +kernel
theorem dX12_nextLaid_54 : decode cX12_nextLaid 54 = .ok (.if_icmp .le 6, 3) := by decide +kernel
theorem dX12_nextLaid_57 : decode cX12_nextLaid 57 = .ok (.iload 4, 2) := by decide +kernel
theorem dX12_nextLaid_59 : decode cX12_nextLaid 59 = .ok (.istore_n 3, 1) := by decide +kernel
theorem dX12_nextLaid_60 : decode cX12_nextLaid 60 = .ok (.iinc 4 1, 3) := by decide +kernel
theorem dX12_nextLaid_63 : decode cX12_nextLaid 63 = .ok (.goto (-58), 3) := by decide +kernel
theorem dX12_nextLaid_66 : decode cX12_nextLaid 66 = .ok (.iload_n 3, 1) := by decide +kernel
theorem dX12_nextLaid_67 : decode cX12_nextLaid 67 = .ok (.ireturn, 1) := by decide +kernel
def fX12_nextLaid_57 (k5 : Int → Int → Int → Int → Int → V_ → Option (Int × V_)) (x0 x1 x2 x4 : Int) (v : V_) : Option (Int × V_) :=
  lt_ (wr_ (x4 + 1)) fun y8 =>
  k5 x0 x1 x2 x4 y8 v
def fX12_nextLaid_5 : Nat → Int → Int → Int → Int → Int → V_ → Option (Int × V_)
  | 0, _, _, _, _, _, _ => none
  | n + 1, x0, x1, x2, x3, x4, v =>
    ck_ (0 ≤ x1 ∧ x1 < 8) (
    if (v (x0 + 34) x1) ≤ x4 then (
      some (x3, v))
    else (
      bd_ (fX12_canBeLaid x0 x1 x4 x2 v) fun q4 =>
      if q4.1 = 0 then (
        lt_ (wr_ (x4 + 1)) fun y6 =>
        (fX12_nextLaid_5 n) x0 x1 x2 x3 y6 q4.2)
      else (
        if x3 < 0 then (
          fX12_nextLaid_57 (fX12_nextLaid_5 n) x0 x1 x2 x4 q4.2)
        else (
          ck_ (0 ≤ wr_ ((wr_ (34 * x1)) + x4) ∧ wr_ ((wr_ (34 * x1)) + x4) < 272) (
          ck_ (0 ≤ wr_ ((wr_ (34 * x1)) + x3) ∧ wr_ ((wr_ (34 * x1)) + x3) < 272) (
          if (q4.2 (x0 + 45) (wr_ ((wr_ (34 * x1)) + x4))) ≤ (q4.2 (x0 + 45) (wr_ ((wr_ (34 * x1)) + x3))) then (
            lt_ (wr_ (x4 + 1)) fun y14 =>
            (fX12_nextLaid_5 n) x0 x1 x2 x3 y14 q4.2)
          else (
            fX12_nextLaid_57 (fX12_nextLaid_5 n) x0 x1 x2 x4 q4.2)))))))
def fX12_nextLaid (x0 x1 x2 : Int) (v : V_) : Option (Int × V_) :=
  fX12_nextLaid_5 fu_ x0 x1 x2 (-1) 0 v
section
variable {E : En_} {p : Program} {l : Launch} {e : Env} {s : State} {m : MethodId} {args : Array Value} {below : List Frame} {meth : Method} {c : Code} {sz : Int}
theorem tX12_nextLaid_57 (C : MC_ E p s m c cX12_nextLaid 5 RX12) (hr : meth.sig.returnType = (some FieldType.int)) (hlk : meth.locks = false) (hC : Cl_ E.2.2.2.2.2 sz) {out : Int × V_} (k5 : Int → Int → Int → Int → Int → V_ → Option (Int × V_)) (H_5 : ∀ (x0 x1 x2 x3 x4 : Int) (v : V_), (E.2.2.2.2.2 x0 ∧ ty_ x0 = 12 ∧ ln_ x0 = 0) → k5 x0 x1 x2 x3 x4 v = some out → G_ E p l e (rm_ 1 25) s m args below meth c 5 sz (Q_ E below args s sz sz 0 out.1 out.2) 5 [(0, (2, x0)), (1, (0, x1)), (2, (0, x2)), (3, (0, x3)), (4, (0, x4))] [] v sz) (x0 x1 x2 x4 : Int) (v : V_) (T0 : (E.2.2.2.2.2 x0 ∧ ty_ x0 = 12 ∧ ln_ x0 = 0)) (h : fX12_nextLaid_57 k5 x0 x1 x2 x4 v = some out) : G_ E p l e (rm_ 1 25) s m args below meth c 5 sz (Q_ E below args s sz sz 0 out.1 out.2) 57 [(0, (2, x0)), (1, (0, x1)), (2, (0, x2)), (4, (0, x4))] [] v sz := by
  rw [fX12_nextLaid_57] at h
  refine g_iload C (i := 4) dX12_nextLaid_57 3 rfl ?_
  refine g_istore_n C (f := 3) (ls' := [(3, (0, x4)), (0, (2, x0)), (1, (0, x1)), (2, (0, x2)), (4, (0, x4))]) dX12_nextLaid_59 (by decide) rfl ?_
  obtain ⟨y8, ey8, h⟩ := lt_e h
  refine g_iincx C (ls' := [(4, (0, y8)), (3, (0, x4)), (0, (2, x0)), (1, (0, x1)), (2, (0, x2))]) ey8 dX12_nextLaid_60 4 rfl (by decide) (by decide) rfl ?_
  refine g_goto C 5 dX12_nextLaid_63 rfl ?_
  refine g_sub [2, 3, 4, 1, 0] rfl rfl ?_
  exact H_5 _ _ _ _ _ _ T0 h
theorem tX12_nextLaid_5 (C : MC_ E p s m c cX12_nextLaid 5 RX12) (hr : meth.sig.returnType = (some FieldType.int)) (hlk : meth.locks = false) (hC : Cl_ E.2.2.2.2.2 sz) {out : Int × V_} : ∀ (n : Nat) (x0 x1 x2 x3 x4 : Int) (v : V_), (E.2.2.2.2.2 x0 ∧ ty_ x0 = 12 ∧ ln_ x0 = 0) → fX12_nextLaid_5 n x0 x1 x2 x3 x4 v = some out → G_ E p l e (rm_ 1 25) s m args below meth c 5 sz (Q_ E below args s sz sz 0 out.1 out.2) 5 [(0, (2, x0)), (1, (0, x1)), (2, (0, x2)), (3, (0, x3)), (4, (0, x4))] [] v sz := by
  intro n
  induction n with
  | zero =>
    intro x0 x1 x2 x3 x4 v T0 h
    cases h
  | succ n H_5 =>
    intro x0 x1 x2 x3 x4 v T0 h
    rw [fX12_nextLaid_5] at h
    refine g_iload C (i := 4) dX12_nextLaid_5 4 rfl ?_
    refine g_aload_n C (f := 0) dX12_nextLaid_7 0 rfl ?_
    have F1 := fX12_53 hC T0.1 T0.2.1
    refine g_getR C (k := 53) (o := 34) okX12 (by decide) kf_RX12_118 dX12_nextLaid_8 hC T0.1 T0.2.1 rfl rfl ?_
    refine g_iload_n C (f := 1) dX12_nextLaid_11 1 rfl ?_
    obtain ⟨c2, h⟩ := ck_e h
    refine g_iald C 8 dX12_nextLaid_12 (rg_ hC F1.1) F1.2.1 F1.2.2 c2 ?_
    refine g_icmp_ge C 66 dX12_nextLaid_13 rfl (fun c3 => ?_) (fun c3 => ?_)
    · replace h := if_t h c3
      refine g_iload_n C (f := 3) dX12_nextLaid_66 3 rfl ?_
      cases h
      exact g_iret C dX12_nextLaid_67 hr hlk
    · replace h := if_f h c3
      refine g_aload_n C (f := 0) dX12_nextLaid_16 0 rfl ?_
      refine g_iload_n C (f := 1) dX12_nextLaid_17 1 rfl ?_
      refine g_iload C (i := 4) dX12_nextLaid_18 4 rfl ?_
      refine g_iload_n C (f := 2) dX12_nextLaid_20 2 rfl ?_
      obtain ⟨q4, eq4, h⟩ := bd_e h
      refine g_cV C [(0, x1), (0, x4), (0, x2)] (cX12_canBeLaid_ok l hC T0 eq4) okX12 T0.2.1 (rg_ hC T0.1) km_RX12_470 cv_X12_canBeLaid rfl (by decide) rfl rfl (Nat.le_of_ble_eq_true rfl) dX12_nextLaid_21 ?_
      refine g_if_eq C 60 dX12_nextLaid_24 rfl (fun c5 => ?_) (fun c5 => ?_)
      · replace h := if_t h c5
        obtain ⟨y6, ey6, h⟩ := lt_e h
        refine g_iincx C (ls' := [(4, (0, y6)), (0, (2, x0)), (1, (0, x1)), (2, (0, x2)), (3, (0, x3))]) ey6 dX12_nextLaid_60 4 rfl (by decide) (by decide) rfl ?_
        refine g_goto C 5 dX12_nextLaid_63 rfl ?_
        refine g_sub [1, 2, 3, 4, 0] rfl rfl ?_
        exact H_5 _ _ _ _ _ _ T0 h
      · replace h := if_f h c5
        refine g_iload_n C (f := 3) dX12_nextLaid_27 3 rfl ?_
        refine g_if_lt C 57 dX12_nextLaid_28 rfl (fun c7 => ?_) (fun c7 => ?_)
        · replace h := if_t h c7
          refine g_sub [0, 1, 2, 4] rfl rfl ?_
          exact tX12_nextLaid_57 C hr hlk hC _ H_5 _ _ _ _ _ T0 h
        · replace h := if_f h c7
          refine g_aload_n C (f := 0) dX12_nextLaid_31 0 rfl ?_
          have F9 := fX12_64 hC T0.1 T0.2.1
          refine g_getR C (k := 64) (o := 45) okX12 (by decide) kf_RX12_151 dX12_nextLaid_32 hC T0.1 T0.2.1 rfl rfl ?_
          refine g_bipush C (n := 34) dX12_nextLaid_35 (by decide) ?_
          refine g_iload_n C (f := 1) dX12_nextLaid_37 1 rfl ?_
          refine g_imul C dX12_nextLaid_38 ?_
          refine g_iload C (i := 4) dX12_nextLaid_39 4 rfl ?_
          refine g_iadd C dX12_nextLaid_41 ?_
          obtain ⟨c10, h⟩ := ck_e h
          refine g_iald C 272 dX12_nextLaid_42 (rg_ hC F9.1) F9.2.1 F9.2.2 c10 ?_
          refine g_aload_n C (f := 0) dX12_nextLaid_43 0 rfl ?_
          have F11 := fX12_64 hC T0.1 T0.2.1
          refine g_getR C (k := 64) (o := 45) okX12 (by decide) kf_RX12_151 dX12_nextLaid_44 hC T0.1 T0.2.1 rfl rfl ?_
          refine g_bipush C (n := 34) dX12_nextLaid_47 (by decide) ?_
          refine g_iload_n C (f := 1) dX12_nextLaid_49 1 rfl ?_
          refine g_imul C dX12_nextLaid_50 ?_
          refine g_iload_n C (f := 3) dX12_nextLaid_51 3 rfl ?_
          refine g_iadd C dX12_nextLaid_52 ?_
          obtain ⟨c12, h⟩ := ck_e h
          refine g_iald C 272 dX12_nextLaid_53 (rg_ hC F11.1) F11.2.1 F11.2.2 c12 ?_
          refine g_icmp_le C 60 dX12_nextLaid_54 rfl (fun c13 => ?_) (fun c13 => ?_)
          · replace h := if_t h c13
            obtain ⟨y14, ey14, h⟩ := lt_e h
            refine g_iincx C (ls' := [(4, (0, y14)), (0, (2, x0)), (1, (0, x1)), (2, (0, x2)), (3, (0, x3))]) ey14 dX12_nextLaid_60 4 rfl (by decide) (by decide) rfl ?_
            refine g_goto C 5 dX12_nextLaid_63 rfl ?_
            refine g_sub [1, 2, 3, 4, 0] rfl rfl ?_
            exact H_5 _ _ _ _ _ _ T0 h
          · replace h := if_f h c13
            refine g_sub [0, 1, 2, 4] rfl rfl ?_
            exact tX12_nextLaid_57 C hr hlk hC _ H_5 _ _ _ _ _ T0 h
end
theorem cX12_nextLaid_ok (l : Launch) {E : En_} {sz : Int} (hC : Cl_ E.2.2.2.2.2 sz) {x0 x1 x2 : Int} {v : V_} {out : Int × V_} (T0 : (E.2.2.2.2.2 x0 ∧ ty_ x0 = 12 ∧ ln_ x0 = 0)) (h : fX12_nextLaid x0 x1 x2 v = some out) : Met l yX12_nextLaid [.code yX12_nextLaid cX12_nextLaid 5 (some FieldType.int)] (rm_ 1 25) (Pc_ E sz v [(2, x0), (0, x1), (0, x2)]) (Qc_ E sz 0 out.1 out.2) 0 0 (fun q => E.1 < q) := by
  refine met_G0 RX12 (by decide +kernel) rfl (Nat.le_of_ble_eq_true rfl) ?_
  intro p e s m args below meth c C hr hlk
  rw [fX12_nextLaid] at h
  refine g_iconst C (n := (-1)) dX12_nextLaid_0 (by decide) ?_
  refine g_istore_n C (f := 3) (ls' := [(3, (0, (-1))), (0, (2, x0)), (1, (0, x1)), (2, (0, x2))]) dX12_nextLaid_1 (by decide) rfl ?_
  refine g_iconst C (n := 0) dX12_nextLaid_2 (by decide) ?_
  refine g_istore C (i := 4) (ls' := [(4, (0, 0)), (3, (0, (-1))), (0, (2, x0)), (1, (0, x1)), (2, (0, x2))]) dX12_nextLaid_3 (by decide) rfl ?_
  refine g_sub [2, 3, 4, 1, 0] rfl rfl ?_
  exact tX12_nextLaid_5 C hr hlk hC _ _ _ _ _ _ _ T0 h
theorem dX12_laysTrace_0 : decode cX12_laysTrace 0 = .ok (.iconst 0, 1) := by decide +kernel
theorem dX12_laysTrace_1 : decode cX12_laysTrace 1 = .ok (.istore_n 2, 1) := by decide +kernel
theorem dX12_laysTrace_2 : decode cX12_laysTrace 2 = .ok (.iload_n 2, 1) := by decide +kernel
theorem dX12_laysTrace_3 : decode cX12_laysTrace 3 = .ok (.aload_n 0, 1) := by decide +kernel
theorem dX12_laysTrace_4 : decode cX12_laysTrace 4 = .ok (.getfield 118, 3) := by decide +kernel
theorem dX12_laysTrace_7 : decode cX12_laysTrace 7 = .ok (.iload_n 1, 1) := by decide +kernel
theorem dX12_laysTrace_8 : decode cX12_laysTrace 8 = .ok (.iaload, 1) := by decide +kernel
theorem dX12_laysTrace_9 : decode cX12_laysTrace 9 = .ok (.if_icmp .ge 21, 3) := by decide +kernel
theorem dX12_laysTrace_12 : decode cX12_laysTrace 12 = .ok (.aload_n 0, 1) := by decide +kernel
theorem dX12_laysTrace_13 : decode cX12_laysTrace 13 = .ok (.getfield 148, 3) := by decide +kernel
theorem dX12_laysTrace_16 : decode cX12_laysTrace 16 = .ok (.bipush 34, 2) := by decide +kernel
theorem dX12_laysTrace_18 : decode cX12_laysTrace 18 = .ok (.iload_n 1, 1) := by decide +kernel
theorem dX12_laysTrace_19 : decode cX12_laysTrace 19 = .ok (.imul, 1) := by decide +kernel
theorem dX12_laysTrace_20 : decode cX12_laysTrace 20 = .ok (.iload_n 2, 1) := by decide +kernel
theorem dX12_laysTrace_21 : decode cX12_laysTrace 21 = .ok (.iadd, 1) := by decide +kernel
theorem dX12_laysTrace_22 : decode cX12_laysTrace 22 = .ok (.iconst (-1), 1) := by decide +kernel
theorem dX12_laysTrace_23 : decode cX12_laysTrace 23 = .ok (.iastore, 1) := by decide +kernel
theorem dX12_laysTrace_24 : decode cX12_laysTrace 24 = .ok (.iinc 2 1, 3) := by decide +kernel
theorem dX12_laysTrace_27 : decode cX12_laysTrace 27 = .ok (.goto (-25), 3) := by decide +kernel
theorem dX12_laysTrace_30 : decode cX12_laysTrace 30 = .ok (.aload_n 0, 1) := by decide +kernel
theorem dX12_laysTrace_31 : decode cX12_laysTrace 31 = .ok (.getfield 118, 3) := by decide +kernel
theorem dX12_laysTrace_34 : decode cX12_laysTrace 34 = .ok (.iload_n 1, 1) := by decide +kernel
theorem dX12_laysTrace_35 : decode cX12_laysTrace 35 = .ok (.iaload, 1) := by decide +kernel
theorem dX12_laysTrace_36 : decode cX12_laysTrace 36 = .ok (.istore_n 2, 1) := by decide +kernel
theorem dX12_laysTrace_37 : decode cX12_laysTrace 37 = .ok (.iconst 0, 1) := by decide +kernel
theorem dX12_laysTrace_38 : decode cX12_laysTrace 38 = .ok (.istore_n 3, 1) := by decide +kernel
theorem dX12_laysTrace_39 : decode cX12_laysTrace 39 = .ok (.iload_n 2, 1) := by decide +kernel
theorem dX12_laysTrace_40 : decode cX12_laysTrace 40 = .ok (.ifCond .le 93, 3) := by decide +kernel
theorem dX12_laysTrace_43 : decode cX12_laysTrace 43 = .ok (.iconst 0, 1) := by decide +kernel
theorem dX12_laysTrace_44 : decode cX12_laysTrace 44 = .ok (.istore 4, 2) := by decide +kernel
theorem dX12_laysTrace_46 : decode cX12_laysTrace 46 = .ok (.iload 4, 2) := by decide +kernel
theorem dX12_laysTrace_48 : decode cX12_laysTrace 48 = .ok (.iconst 4, 1) := by decide +kernel
theorem dX12_laysTrace_49 : decode cX12_laysTrace 49 = .ok (.if_icmp .ge 17, 3) := by decide +kernel
theorem dX12_laysTrace_52 : decode cX12_laysTrace 52 = .ok (.aload_n 0, 1) := by decide +kernel
theorem dX12_laysTrace_53 : decode cX12_laysTrace 53 = .ok (.getfield 163, 3) := by decide +kernel
theorem dX12_laysTrace_56 : decode cX12_laysTrace 56 = .ok (.iload 4, 2) := by decide +kernel
theorem dX12_laysTrace_58 : decode cX12_laysTrace 58 = .ok (.iconst 0, 1) := by decide +kernel
theorem dX12_laysTrace_59 : decode cX12_laysTrace 59 = .ok (.iastore, 1) := by decide +kernel
theorem dX12_laysTrace_60 : decode cX12_laysTrace 60 = .ok (.iinc 4 1, 3) := by decide +kernel
theorem dX12_laysTrace_63 : decode cX12_laysTrace 63 = .ok (.goto (-17), 3) := by decide +kernel
theorem dX12_laysTrace_66 : decode cX12_laysTrace 66 = .ok (.aload_n 0, 1) := by decide +kernel
theorem dX12_laysTrace_67 : decode cX12_laysTrace 67 = .ok (.iload_n 1, 1) := by decide +kernel
theorem dX12_laysTrace_68 : decode cX12_laysTrace 68 = .ok (.iload_n 3, 1) := by decide +kernel
theorem dX12_laysTrace_69 : decode cX12_laysTrace 69 = .ok (.invokevirtual 473, 3) := by decide +kernel
theorem dX12_laysTrace_72 : decode cX12_laysTrace 72 = .ok (.istore 4, 2) := by decide +kernel
theorem dX12_laysTrace_74 : decode cX12_laysTrace 74 = .ok (.iload 4, 2) := by decide +kernel
theorem dX12_laysTrace_76 : decode cX12_laysTrace 76 = .ok (.ifCond .lt 51, 3) := by decide +kernel
theorem dX12_laysTrace_79 : decode cX12_laysTrace 79 = .ok (.aload_n 0, 1) := by decide +kernel
theorem dX12_laysTrace_80 : decode cX12_laysTrace 80 = .ok (.getfield 148, 3) := by decide +kernel
theorem dX12_laysTrace_83 : decode cX12_laysTrace 83 = .ok (.bipush 34, 2) := by decide +kernel
theorem dX12_laysTrace_85 : decode cX12_laysTrace 85 = .ok (.iload_n 1, 1) := by decide +kernel
theorem dX12_laysTrace_86 : decode cX12_laysTrace 86 = .ok (.imul, 1) := by decide +kernel
theorem dX12_laysTrace_87 : decode cX12_laysTrace 87 = .ok (.iload 4, 2) := by decide +kernel
theorem dX12_laysTrace_89 : decode cX12_laysTrace 89 = .ok (.iadd, 1) := by decide +kernel
theorem dX12_laysTrace_90 : decode cX12_laysTrace 90 = .ok (.iload_n 3, 1) := by decide +kernel
theorem dX12_laysTrace_91 : decode cX12_laysTrace 91 = .ok (.iastore, 1) := by decide +kernel
theorem dX12_laysTrace_92 : decode cX12_laysTrace 92 = .ok (.aload_n 0, 1) := by decide +kernel
theorem dX12_laysTrace_93 : decode cX12_laysTrace 93 = .ok (.getfield 163, 3) := by decide +kernel
theorem dX12_laysTrace_96 : decode cX12_laysTrace 96 = .ok (.aload_n 0, 1) := by decide +kernel
theorem dX12_laysTrace_97 : decode cX12_laysTrace 97 = .ok (.getfield 127, 3) := by decide +kernel
theorem dX12_laysTrace_100 : decode cX12_laysTrace 100 = .ok (.bipush 34, 2) := by decide +kernel
theorem dX12_laysTrace_102 : decode cX12_laysTrace 102 = .ok (.iload_n 1, 1) := by decide +kernel
theorem dX12_laysTrace_103 : decode cX12_laysTrace 103 = .ok (.imul, 1) := by decide +kernel
theorem dX12_laysTrace_104 : decode cX12_laysTrace 104 = .ok (.iload 4, 2) := by decide +kernel
theorem dX12_laysTrace_106 : decode cX12_laysTrace 106 = .ok (.iadd, 1) := by decide +kernel
theorem dX12_laysTrace_107 : decode cX12_laysTrace 107 = .ok (.iaload, 1) := by decide +kernel
theorem dX12_laysTrace_108 : decode cX12_laysTrace 108 = .ok (.dup2, 1) := by decide +kernel
theorem dX12_laysTrace_109 : decode cX12_laysTrace 109 = .ok (.iaload, 1) := by decide +kernel
theorem dX12_laysTrace_110 : decode cX12_laysTrace 110 = .ok (.iconst 1, 1) := by decide +kernel
theorem dX12_laysTrace_111 : decode cX12_laysTrace 111 = .ok (.iadd, 1) := by decide +kernel
theorem dX12_laysTrace_112 : decode cX12_laysTrace 112 = .ok (.iastore, 1) := by decide +kernel
theorem dX12_laysTrace_113 : decode cX12_laysTrace 113 = .ok (.iinc 2 (-1), 3) := by decide +kernel
theorem dX12_laysTrace_116 : decode cX12_laysTrace 116 = .ok (.aload_n 0, 1) := by decide +kernel
theorem dX12_laysTrace_117 : decode cX12_laysTrace 117 = .ok (.iload_n 1, 1) := by decide +kernel
theorem dX12_laysTrace_118 : decode cX12_laysTrace 118 = .ok (.iload_n 3, 1) := by decide +kernel
theorem dX12_laysTrace_119 : decode cX12_laysTrace 119 = .ok (.invokevirtual 473, 3) := by decide +kernel
theorem dX12_laysTrace_122 : decode cX12_laysTrace 122 = .ok (.istore 4, 2) := by decide +kernel
theorem dX12_laysTrace_124 : decode cX12_laysTrace 124 = .ok (.goto (-50), 3) := by decide +kernel
theorem dX12_laysTrace_127 : decode cX12_laysTrace 127 = .ok (.iinc 3 1, 3) := by decide +kernel
theorem dX12_laysTrace_130 : decode cX12_laysTrace 130 = .ok (.goto (-91), 3) := by decide +kernel
theorem dX12_laysTrace_133 : decode cX12_laysTrace 133 = .ok (.return_, 1) := by decide +kernel
def fX12_laysTrace_74 (k39 : Int → Int → Int → Int → V_ → Option (Int × V_)) : Nat → Int → Int → Int → Int → Int → V_ → Option (Int × V_)
  | 0, _, _, _, _, _, _ => none
  | n + 1, x0, x1, x2, x3, x4, v =>
    if x4 < 0 then (
      lt_ (wr_ (x3 + 1)) fun y11 =>
      k39 x0 x1 x2 y11 v)
    else (
      ck_ (0 ≤ wr_ ((wr_ (34 * x1)) + x4) ∧ wr_ ((wr_ (34 * x1)) + x4) < 272) (
      lt_ (up_ v (x0 + 44) (wr_ ((wr_ (34 * x1)) + x4)) x3) fun v14 =>
      ck_ (0 ≤ wr_ ((wr_ (34 * x1)) + x4) ∧ wr_ ((wr_ (34 * x1)) + x4) < 272) (
      ck_ (0 ≤ v14 (x0 + 37) (wr_ ((wr_ (34 * x1)) + x4)) ∧ v14 (x0 + 37) (wr_ ((wr_ (34 * x1)) + x4)) < 4) (
      ck_ (0 ≤ v14 (x0 + 37) (wr_ ((wr_ (34 * x1)) + x4)) ∧ v14 (x0 + 37) (wr_ ((wr_ (34 * x1)) + x4)) < 4) (
      lt_ (up_ v14 (x0 + 49) (v14 (x0 + 37) (wr_ ((wr_ (34 * x1)) + x4))) (wr_ ((v14 (x0 + 49) (v14 (x0 + 37) (wr_ ((wr_ (34 * x1)) + x4)))) + 1))) fun v20 =>
      lt_ (wr_ (x2 + (-1))) fun y21 =>
      bd_ (fX12_nextLaid x0 x1 x3 v20) fun q22 =>
      (fX12_laysTrace_74 k39 n) x0 x1 y21 x3 q22.1 q22.2)))))
def fX12_laysTrace_46 (k39 : Int → Int → Int → Int → V_ → Option (Int × V_)) : Nat → Int → Int → Int → Int → Int → V_ → Option (Int × V_)
  | 0, _, _, _, _, _, _ => none
  | n + 1, x0, x1, x2, x3, x4, v =>
    if 4 ≤ x4 then (
      bd_ (fX12_nextLaid x0 x1 x3 v) fun q9 =>
      fX12_laysTrace_74 k39 fu_ x0 x1 x2 x3 q9.1 q9.2)
    else (
      ck_ (0 ≤ x4 ∧ x4 < 4) (
      lt_ (up_ v (x0 + 49) x4 0) fun v25 =>
      lt_ (wr_ (x4 + 1)) fun y26 =>
      (fX12_laysTrace_46 k39 n) x0 x1 x2 x3 y26 v25))
def fX12_laysTrace_39 : Nat → Int → Int → Int → Int → V_ → Option (Int × V_)
  | 0, _, _, _, _, _ => none
  | n + 1, x0, x1, x2, x3, v =>
    if x2 ≤ 0 then (
      some (0, v))
    else (
      fX12_laysTrace_46 (fX12_laysTrace_39 n) fu_ x0 x1 x2 x3 0 v)
def fX12_laysTrace_2 : Nat → Int → Int → Int → V_ → Option (Int × V_)
  | 0, _, _, _, _ => none
  | n + 1, x0, x1, x2, v =>
    ck_ (0 ≤ x1 ∧ x1 < 8) (
    if (v (x0 + 34) x1) ≤ x2 then (
      ck_ (0 ≤ x1 ∧ x1 < 8) (
      lt_ (v (x0 + 34) x1) fun y6 =>
      fX12_laysTrace_39 fu_ x0 x1 y6 0 v))
    else (
      ck_ (0 ≤ wr_ ((wr_ (34 * x1)) + x2) ∧ wr_ ((wr_ (34 * x1)) + x2) < 272) (
      lt_ (up_ v (x0 + 44) (wr_ ((wr_ (34 * x1)) + x2)) (-1)) fun v29 =>
      lt_ (wr_ (x2 + 1)) fun y30 =>
      (fX12_laysTrace_2 n) x0 x1 y30 v29)))
def fX12_laysTrace (x0 x1 : Int) (v : V_) : Option (Int × V_) :=
  fX12_laysTrace_2 fu_ x0 x1 0 v
section
variable {E : En_} {p : Program} {l : Launch} {e : Env} {s : State} {m : MethodId} {args : Array Value} {below : List Frame} {meth : Method} {c : Code} {sz : Int}
theorem tX12_laysTrace_74 (C : MC_ E p s m c cX12_laysTrace 5 RX12) (hr : meth.sig.returnType = (none : Option FieldType)) (hlk : meth.locks = false) (hC : Cl_ E.2.2.2.2.2 sz) {out : Int × V_} (k39 : Int → Int → Int → Int → V_ → Option (Int × V_)) (H_39 : ∀ (x0 x1 x2 x3 : Int) (v : V_), (E.2.2.2.2.2 x0 ∧ ty_ x0 = 12 ∧ ln_ x0 = 0) → k39 x0 x1 x2 x3 v = some out → G_ E p l e (rm_ 2 49) s m args below meth c 5 sz (Q_ E below args s sz sz 9 out.1 out.2) 39 [(0, (2, x0)), (1, (0, x1)), (2, (0, x2)), (3, (0, x3))] [] v sz) : ∀ (n : Nat) (x0 x1 x2 x3 x4 : Int) (v : V_), (E.2.2.2.2.2 x0 ∧ ty_ x0 = 12 ∧ ln_ x0 = 0) → fX12_laysTrace_74 k39 n x0 x1 x2 x3 x4 v = some out → G_ E p l e (rm_ 2 49) s m args below meth c 5 sz (Q_ E below args s sz sz 9 out.1 out.2) 74 [(0, (2, x0)), (1, (0, x1)), (2, (0, x2)), (3, (0, x3)), (4, (0, x4))] [] v sz := by
  intro n
  induction n with
  | zero =>
    intro x0 x1 x2 x3 x4 v T0 h
    cases h
  | succ n H_74 =>
    intro x0 x1 x2 x3 x4 v T0 h
    rw [fX12_laysTrace_74] at h
    refine g_iload C (i := 4) dX12_laysTrace_74 4 rfl ?_
    refine g_if_lt C 127 dX12_laysTrace_76 rfl (fun c10 => ?_) (fun c10 => ?_)
    · replace h := if_t h c10
      obtain ⟨y11, ey11, h⟩ := lt_e h
      refine g_iincx C (ls' := [(3, (0, y11)), (0, (2, x0)), (1, (0, x1)), (2, (0, x2)), (4, (0, x4))]) ey11 dX12_laysTrace_127 3 rfl (by decide) (by decide) rfl ?_
      refine g_goto C 39 dX12_laysTrace_130 rfl ?_
      refine g_sub [1, 2, 3, 0] rfl rfl ?_
      exact H_39 _ _ _ _ _ T0 h
    · replace h := if_f h c10
      refine g_aload_n C (f := 0) dX12_laysTrace_79 0 rfl ?_
      have F12 := fX12_63 hC T0.1 T0.2.1
      refine g_getR C (k := 63) (o := 44) okX12 (by decide) kf_RX12_148 dX12_laysTrace_80 hC T0.1 T0.2.1 rfl rfl ?_
      refine g_bipush C (n := 34) dX12_laysTrace_83 (by decide) ?_
      refine g_iload_n C (f := 1) dX12_laysTrace_85 1 rfl ?_
      refine g_imul C dX12_laysTrace_86 ?_
      refine g_iload C (i := 4) dX12_laysTrace_87 4 rfl ?_
      refine g_iadd C dX12_laysTrace_89 ?_
      refine g_iload_n C (f := 3) dX12_laysTrace_90 3 rfl ?_
      obtain ⟨c13, h⟩ := ck_e h
      obtain ⟨v14, ev14, h⟩ := lt_e h
      refine g_iast C 272 dX12_laysTrace_91 (rg_ hC F12.1) F12.2.1 F12.2.2 c13 v14 ev14 ?_
      refine g_aload_n C (f := 0) dX12_laysTrace_92 0 rfl ?_
      have F15 := fX12_68 hC T0.1 T0.2.1
      refine g_getR C (k := 68) (o := 49) okX12 (by decide) kf_RX12_163 dX12_laysTrace_93 hC T0.1 T0.2.1 rfl rfl ?_
      refine g_aload_n C (f := 0) dX12_laysTrace_96 0 rfl ?_
      have F16 := fX12_56 hC T0.1 T0.2.1
      refine g_getR C (k := 56) (o := 37) okX12 (by decide) kf_RX12_127 dX12_laysTrace_97 hC T0.1 T0.2.1 rfl rfl ?_
      refine g_bipush C (n := 34) dX12_laysTrace_100 (by decide) ?_
      refine g_iload_n C (f := 1) dX12_laysTrace_102 1 rfl ?_
      refine g_imul C dX12_laysTrace_103 ?_
      refine g_iload C (i := 4) dX12_laysTrace_104 4 rfl ?_
      refine g_iadd C dX12_laysTrace_106 ?_
      obtain ⟨c17, h⟩ := ck_e h
      refine g_iald C 272 dX12_laysTrace_107 (rg_ hC F16.1) F16.2.1 F16.2.2 c17 ?_
      refine g_dup2 C (Nat.ne_of_beq_eq_false rfl) (Nat.ne_of_beq_eq_false rfl) dX12_laysTrace_108 ?_
      obtain ⟨c18, h⟩ := ck_e h
      refine g_iald C 4 dX12_laysTrace_109 (rg_ hC F15.1) F15.2.1 F15.2.2 c18 ?_
      refine g_iconst C (n := 1) dX12_laysTrace_110 (by decide) ?_
      refine g_iadd C dX12_laysTrace_111 ?_
      obtain ⟨c19, h⟩ := ck_e h
      obtain ⟨v20, ev20, h⟩ := lt_e h
      refine g_iast C 4 dX12_laysTrace_112 (rg_ hC F15.1) F15.2.1 F15.2.2 c19 v20 ev20 ?_
      obtain ⟨y21, ey21, h⟩ := lt_e h
      refine g_iincx C (ls' := [(2, (0, y21)), (0, (2, x0)), (1, (0, x1)), (3, (0, x3)), (4, (0, x4))]) ey21 dX12_laysTrace_113 2 rfl (by decide) (by decide) rfl ?_
      refine g_aload_n C (f := 0) dX12_laysTrace_116 1 rfl ?_
      refine g_iload_n C (f := 1) dX12_laysTrace_117 2 rfl ?_
      refine g_iload_n C (f := 3) dX12_laysTrace_118 3 rfl ?_
      obtain ⟨q22, eq22, h⟩ := bd_e h
      refine g_cV C [(0, x1), (0, x3)] (cX12_nextLaid_ok l hC T0 eq22) okX12 T0.2.1 (rg_ hC T0.1) km_RX12_473 cv_X12_nextLaid rfl (by decide) rfl rfl (Nat.le_of_ble_eq_true rfl) dX12_laysTrace_119 ?_
      refine g_istore C (i := 4) (ls' := [(4, (0, q22.1)), (2, (0, y21)), (0, (2, x0)), (1, (0, x1)), (3, (0, x3))]) dX12_laysTrace_122 (by decide) rfl ?_
      refine g_goto C 74 dX12_laysTrace_124 rfl ?_
      refine g_sub [2, 3, 1, 4, 0] rfl rfl ?_
      exact H_74 _ _ _ _ _ _ T0 h
theorem tX12_laysTrace_46 (C : MC_ E p s m c cX12_laysTrace 5 RX12) (hr : meth.sig.returnType = (none : Option FieldType)) (hlk : meth.locks = false) (hC : Cl_ E.2.2.2.2.2 sz) {out : Int × V_} (k39 : Int → Int → Int → Int → V_ → Option (Int × V_)) (H_39 : ∀ (x0 x1 x2 x3 : Int) (v : V_), (E.2.2.2.2.2 x0 ∧ ty_ x0 = 12 ∧ ln_ x0 = 0) → k39 x0 x1 x2 x3 v = some out → G_ E p l e (rm_ 2 49) s m args below meth c 5 sz (Q_ E below args s sz sz 9 out.1 out.2) 39 [(0, (2, x0)), (1, (0, x1)), (2, (0, x2)), (3, (0, x3))] [] v sz) : ∀ (n : Nat) (x0 x1 x2 x3 x4 : Int) (v : V_), (E.2.2.2.2.2 x0 ∧ ty_ x0 = 12 ∧ ln_ x0 = 0) → fX12_laysTrace_46 k39 n x0 x1 x2 x3 x4 v = some out → G_ E p l e (rm_ 2 49) s m args below meth c 5 sz (Q_ E below args s sz sz 9 out.1 out.2) 46 [(0, (2, x0)), (1, (0, x1)), (2, (0, x2)), (3, (0, x3)), (4, (0, x4))] [] v sz := by
  intro n
  induction n with
  | zero =>
    intro x0 x1 x2 x3 x4 v T0 h
    cases h
  | succ n H_46 =>
    intro x0 x1 x2 x3 x4 v T0 h
    rw [fX12_laysTrace_46] at h
    refine g_iload C (i := 4) dX12_laysTrace_46 4 rfl ?_
    refine g_iconst C (n := 4) dX12_laysTrace_48 (by decide) ?_
    refine g_icmp_ge C 66 dX12_laysTrace_49 rfl (fun c8 => ?_) (fun c8 => ?_)
    · replace h := if_t h c8
      refine g_aload_n C (f := 0) dX12_laysTrace_66 0 rfl ?_
      refine g_iload_n C (f := 1) dX12_laysTrace_67 1 rfl ?_
      refine g_iload_n C (f := 3) dX12_laysTrace_68 3 rfl ?_
      obtain ⟨q9, eq9, h⟩ := bd_e h
      refine g_cV C [(0, x1), (0, x3)] (cX12_nextLaid_ok l hC T0 eq9) okX12 T0.2.1 (rg_ hC T0.1) km_RX12_473 cv_X12_nextLaid rfl (by decide) rfl rfl (Nat.le_of_ble_eq_true rfl) dX12_laysTrace_69 ?_
      refine g_istore C (i := 4) (ls' := [(4, (0, q9.1)), (0, (2, x0)), (1, (0, x1)), (2, (0, x2)), (3, (0, x3))]) dX12_laysTrace_72 (by decide) rfl ?_
      refine g_sub [1, 2, 3, 4, 0] rfl rfl ?_
      exact tX12_laysTrace_74 C hr hlk hC _ H_39 _ _ _ _ _ _ _ T0 h
    · replace h := if_f h c8
      refine g_aload_n C (f := 0) dX12_laysTrace_52 0 rfl ?_
      have F23 := fX12_68 hC T0.1 T0.2.1
      refine g_getR C (k := 68) (o := 49) okX12 (by decide) kf_RX12_163 dX12_laysTrace_53 hC T0.1 T0.2.1 rfl rfl ?_
      refine g_iload C (i := 4) dX12_laysTrace_56 4 rfl ?_
      refine g_iconst C (n := 0) dX12_laysTrace_58 (by decide) ?_
      obtain ⟨c24, h⟩ := ck_e h
      obtain ⟨v25, ev25, h⟩ := lt_e h
      refine g_iast C 4 dX12_laysTrace_59 (rg_ hC F23.1) F23.2.1 F23.2.2 c24 v25 ev25 ?_
      obtain ⟨y26, ey26, h⟩ := lt_e h
      refine g_iincx C (ls' := [(4, (0, y26)), (0, (2, x0)), (1, (0, x1)), (2, (0, x2)), (3, (0, x3))]) ey26 dX12_laysTrace_60 4 rfl (by decide) (by decide) rfl ?_
      refine g_goto C 46 dX12_laysTrace_63 rfl ?_
      refine g_sub [1, 2, 3, 4, 0] rfl rfl ?_
      exact H_46 _ _ _ _ _ _ T0 h
theorem tX12_laysTrace_39 (C : MC_ E p s m c cX12_laysTrace 5 RX12) (hr : meth.sig.returnType = (none : Option FieldType)) (hlk : meth.locks = false) (hC : Cl_ E.2.2.2.2.2 sz) {out : Int × V_} : ∀ (n : Nat) (x0 x1 x2 x3 : Int) (v : V_), (E.2.2.2.2.2 x0 ∧ ty_ x0 = 12 ∧ ln_ x0 = 0) → fX12_laysTrace_39 n x0 x1 x2 x3 v = some out → G_ E p l e (rm_ 2 49) s m args below meth c 5 sz (Q_ E below args s sz sz 9 out.1 out.2) 39 [(0, (2, x0)), (1, (0, x1)), (2, (0, x2)), (3, (0, x3))] [] v sz := by
  intro n
  induction n with
  | zero =>
    intro x0 x1 x2 x3 v T0 h
    cases h
  | succ n H_39 =>
    intro x0 x1 x2 x3 v T0 h
    rw [fX12_laysTrace_39] at h
    refine g_iload_n C (f := 2) dX12_laysTrace_39 2 rfl ?_
    refine g_if_le C 133 dX12_laysTrace_40 rfl (fun c7 => ?_) (fun c7 => ?_)
    · replace h := if_t h c7
      cases h
      exact g_vret C dX12_laysTrace_133 hr hlk
    · replace h := if_f h c7
      refine g_iconst C (n := 0) dX12_laysTrace_43 (by decide) ?_
      refine g_istore C (i := 4) (ls' := [(4, (0, 0)), (0, (2, x0)), (1, (0, x1)), (2, (0, x2)), (3, (0, x3))]) dX12_laysTrace_44 (by decide) rfl ?_
      refine g_sub [1, 2, 3, 4, 0] rfl rfl ?_
      exact tX12_laysTrace_46 C hr hlk hC _ H_39 _ _ _ _ _ _ _ T0 h
theorem tX12_laysTrace_2 (C : MC_ E p s m c cX12_laysTrace 5 RX12) (hr : meth.sig.returnType = (none : Option FieldType)) (hlk : meth.locks = false) (hC : Cl_ E.2.2.2.2.2 sz) {out : Int × V_} : ∀ (n : Nat) (x0 x1 x2 : Int) (v : V_), (E.2.2.2.2.2 x0 ∧ ty_ x0 = 12 ∧ ln_ x0 = 0) → fX12_laysTrace_2 n x0 x1 x2 v = some out → G_ E p l e (rm_ 2 49) s m args below meth c 5 sz (Q_ E below args s sz sz 9 out.1 out.2) 2 [(0, (2, x0)), (1, (0, x1)), (2, (0, x2))] [] v sz := by
  intro n
  induction n with
  | zero =>
    intro x0 x1 x2 v T0 h
    cases h
  | succ n H_2 =>
    intro x0 x1 x2 v T0 h
    rw [fX12_laysTrace_2] at h
    refine g_iload_n C (f := 2) dX12_laysTrace_2 2 rfl ?_
    refine g_aload_n C (f := 0) dX12_laysTrace_3 0 rfl ?_
    have F1 := fX12_53 hC T0.1 T0.2.1
    refine g_getR C (k := 53) (o := 34) okX12 (by decide) kf_RX12_118 dX12_laysTrace_4 hC T0.1 T0.2.1 rfl rfl ?_
    refine g_iload_n C (f := 1) dX12_laysTrace_7 1 rfl ?_
    obtain ⟨c2, h⟩ := ck_e h
    refine g_iald C 8 dX12_laysTrace_8 (rg_ hC F1.1) F1.2.1 F1.2.2 c2 ?_
    refine g_icmp_ge C 30 dX12_laysTrace_9 rfl (fun c3 => ?_) (fun c3 => ?_)
    · replace h := if_t h c3
      refine g_aload_n C (f := 0) dX12_laysTrace_30 0 rfl ?_
      have F4 := fX12_53 hC T0.1 T0.2.1
      refine g_getR C (k := 53) (o := 34) okX12 (by decide) kf_RX12_118 dX12_laysTrace_31 hC T0.1 T0.2.1 rfl rfl ?_
      refine g_iload_n C (f := 1) dX12_laysTrace_34 1 rfl ?_
      obtain ⟨c5, h⟩ := ck_e h
      refine g_iald C 8 dX12_laysTrace_35 (rg_ hC F4.1) F4.2.1 F4.2.2 c5 ?_
      obtain ⟨y6, ey6, h⟩ := lt_e h
      refine g_set C ey6 ?_
      refine g_istore_n C (f := 2) (ls' := [(2, (0, y6)), (0, (2, x0)), (1, (0, x1))]) dX12_laysTrace_36 (by decide) rfl ?_
      refine g_iconst C (n := 0) dX12_laysTrace_37 (by decide) ?_
      refine g_istore_n C (f := 3) (ls' := [(3, (0, 0)), (2, (0, y6)), (0, (2, x0)), (1, (0, x1))]) dX12_laysTrace_38 (by decide) rfl ?_
      refine g_sub [2, 3, 1, 0] rfl rfl ?_
      exact tX12_laysTrace_39 C hr hlk hC _ _ _ _ _ _ T0 h
    · replace h := if_f h c3
      refine g_aload_n C (f := 0) dX12_laysTrace_12 0 rfl ?_
      have F27 := fX12_63 hC T0.1 T0.2.1
      refine g_getR C (k := 63) (o := 44) okX12 (by decide) kf_RX12_148 dX12_laysTrace_13 hC T0.1 T0.2.1 rfl rfl ?_
      refine g_bipush C (n := 34) dX12_laysTrace_16 (by decide) ?_
      refine g_iload_n C (f := 1) dX12_laysTrace_18 1 rfl ?_
      refine g_imul C dX12_laysTrace_19 ?_
      refine g_iload_n C (f := 2) dX12_laysTrace_20 2 rfl ?_
      refine g_iadd C dX12_laysTrace_21 ?_
      refine g_iconst C (n := (-1)) dX12_laysTrace_22 (by decide) ?_
      obtain ⟨c28, h⟩ := ck_e h
      obtain ⟨v29, ev29, h⟩ := lt_e h
      refine g_iast C 272 dX12_laysTrace_23 (rg_ hC F27.1) F27.2.1 F27.2.2 c28 v29 ev29 ?_
      obtain ⟨y30, ey30, h⟩ := lt_e h
      refine g_iincx C (ls' := [(2, (0, y30)), (0, (2, x0)), (1, (0, x1))]) ey30 dX12_laysTrace_24 2 rfl (by decide) (by decide) rfl ?_
      refine g_goto C 2 dX12_laysTrace_27 rfl ?_
      refine g_sub [1, 2, 0] rfl rfl ?_
      exact H_2 _ _ _ _ T0 h
end
theorem cX12_laysTrace_ok (l : Launch) {E : En_} {sz : Int} (hC : Cl_ E.2.2.2.2.2 sz) {x0 x1 : Int} {v : V_} {out : Int × V_} (T0 : (E.2.2.2.2.2 x0 ∧ ty_ x0 = 12 ∧ ln_ x0 = 0)) (h : fX12_laysTrace x0 x1 v = some out) : Met l yX12_laysTrace [.code yX12_laysTrace cX12_laysTrace 5 (none : Option FieldType)] (rm_ 2 49) (Pc_ E sz v [(2, x0), (0, x1)]) (Qc_ E sz 9 out.1 out.2) 0 0 (fun q => E.1 < q) := by
  refine met_G0 RX12 (by decide +kernel) rfl (Nat.le_of_ble_eq_true rfl) ?_
  intro p e s m args below meth c C hr hlk
  rw [fX12_laysTrace] at h
  refine g_iconst C (n := 0) dX12_laysTrace_0 (by decide) ?_
  refine g_istore_n C (f := 2) (ls' := [(2, (0, 0)), (0, (2, x0)), (1, (0, x1))]) dX12_laysTrace_1 (by decide) rfl ?_
  refine g_sub [1, 2, 0] rfl rfl ?_
  exact tX12_laysTrace_2 C hr hlk hC _ _ _ _ _ T0 h
theorem dX12_plansAll_0 : decode cX12_plansAll 0 = .ok (.aload_n 0, 1) := by decide +kernel
theorem dX12_plansAll_1 : decode cX12_plansAll 1 = .ok (.invokevirtual 476, 3) := by decide +kernel
theorem dX12_plansAll_4 : decode cX12_plansAll 4 = .ok (.aload_n 0, 1) := by decide +kernel
theorem dX12_plansAll_5 : decode cX12_plansAll 5 = .ok (.getfield 287, 3) := by decide +kernel
theorem dX12_plansAll_8 : decode cX12_plansAll 8 = .ok (.ifCond .eq 4, 3) := by decide +kernel
theorem dX12_plansAll_11 : decode cX12_plansAll 11 = .ok (.return_, 1) := by decide +kernel
theorem dX12_plansAll_12 : decode cX12_plansAll 12 = .ok (.aload_n 0, 1) := by decide +kernel
theorem dX12_plansAll_13 : decode cX12_plansAll 13 = .ok (.iconst 1, 1) := by decide +kernel
theorem dX12_plansAll_14 : decode cX12_plansAll 14 = .ok (.putfield 287, 3) := by decide +kernel
theorem dX12_plansAll_17 : decode cX12_plansAll 17 = .ok (.aload_n 0, 1) := by decide +kernel
theorem dX12_plansAll_18 : decode cX12_plansAll 18 = .ok (.invokevirtual 479, 3) := by decide +kernel
theorem dX12_plansAll_21 : decode cX12_plansAll 21 = .ok (.aload_n 0, 1) := by decide +kernel
theorem dX12_plansAll_22 : decode cX12_plansAll 22 = .ok (.invokevirtual 482, 3) := by decide +kernel
theorem dX12_plansAll_25 : decode cX12_plansAll 25 = .ok (.iconst 0, 1) := by decide +kernel
theorem dX12_plansAll_26 : decode cX12_plansAll 26 = .ok (.istore_n 1, 1) := by decide +kernel
theorem dX12_plansAll_27 : decode cX12_plansAll 27 = .ok (.iload_n 1, 1) := by decide +kernel
theorem dX12_plansAll_28 : decode cX12_plansAll 28 = .ok (.aload_n 0, 1) := by decide +kernel
theorem dX12_plansAll_29 : decode cX12_plansAll 29 = .ok (.getfield 402, 3) := by decide +kernel
theorem dX12_plansAll_32 : decode cX12_plansAll 32 = .ok (.if_icmp .ge 24, 3) := by decide +kernel
theorem dX12_plansAll_35 : decode cX12_plansAll 35 = .ok (.aload_n 0, 1) := by decide +kernel
theorem dX12_plansAll_36 : decode cX12_plansAll 36 = .ok (.iload_n 1, 1) := by decide +kernel
theorem dX12_plansAll_37 : decode cX12_plansAll 37 = .ok (.invokevirtual 485, 3) := by decide +kernel
theorem dX12_plansAll_40 : decode cX12_plansAll 40 = .ok (.aload_n 0, 1) := by decide +kernel
theorem dX12_plansAll_41 : decode cX12_plansAll 41 = .ok (.iload_n 1, 1) := by decide +kernel
theorem dX12_plansAll_42 : decode cX12_plansAll 42 = .ok (.invokevirtual 488, 3) := by decide +kernel
theorem dX12_plansAll_45 : decode cX12_plansAll 45 = .ok (.aload_n 0, 1) := by decide +kernel
theorem dX12_plansAll_46 : decode cX12_plansAll 46 = .ok (.iload_n 1, 1) := by decide +kernel
theorem dX12_plansAll_47 : decode cX12_plansAll 47 = .ok (.invokevirtual 491, 3) := by decide +kernel
theorem dX12_plansAll_50 : decode cX12_plansAll 50 = .ok (.iinc 1 1, 3) := by decide +kernel
theorem dX12_plansAll_53 : decode cX12_plansAll 53 = .ok (.goto (-26), 3) := by decide +kernel
theorem dX12_plansAll_56 : decode cX12_plansAll 56 = .ok (.return_, 1) := by decide +kernel
def fX12_plansAll_27 : Nat → Int → Int → V_ → Option (Int × V_)
  | 0, _, _, _ => none
  | n + 1, x0, x1, v =>
    if (v x0 52) ≤ x1 then (
      some (0, v))
    else (
      bd_ (fX12_fillsItems x0 x1 v) fun q7 =>
      bd_ (fX12_fillsNeeds x0 x1 q7.2) fun q8 =>
      bd_ (fX12_laysTrace x0 x1 q8.2) fun q9 =>
      lt_ (wr_ (x1 + 1)) fun y10 =>
      (fX12_plansAll_27 n) x0 y10 q9.2)
def fX12_plansAll (x0 : Int) (v : V_) : Option (Int × V_) :=
  bd_ (fX12_copies x0 v) fun q1 =>
  if (q1.2 x0 69) = 0 then (
    lt_ (up_ q1.2 x0 69 1) fun v3 =>
    bd_ (fX12_fillsLive x0 v3) fun q4 =>
    bd_ (fX12_fillsTraces x0 q4.2) fun q5 =>
    fX12_plansAll_27 fu_ x0 0 q5.2)
  else (
    some (0, q1.2))
section
variable {E : En_} {p : Program} {l : Launch} {e : Env} {s : State} {m : MethodId} {args : Array Value} {below : List Frame} {meth : Method} {c : Code} {sz : Int}
theorem tX12_plansAll_27 (C : MC_ E p s m c cX12_plansAll 2 RX12) (hr : meth.sig.returnType = (none : Option FieldType)) (hlk : meth.locks = false) (hC : Cl_ E.2.2.2.2.2 sz) {out : Int × V_} : ∀ (n : Nat) (x0 x1 : Int) (v : V_), (E.2.2.2.2.2 x0 ∧ ty_ x0 = 12 ∧ ln_ x0 = 0) → fX12_plansAll_27 n x0 x1 v = some out → G_ E p l e (rm_ 5 112) s m args below meth c 2 sz (Q_ E below args s sz sz 9 out.1 out.2) 27 [(0, (2, x0)), (1, (0, x1))] [] v sz := by
  intro n
  induction n with
  | zero =>
    intro x0 x1 v T0 h
    cases h
  | succ n H_27 =>
    intro x0 x1 v T0 h
    rw [fX12_plansAll_27] at h
    refine g_iload_n C (f := 1) dX12_plansAll_27 1 rfl ?_
    refine g_aload_n C (f := 0) dX12_plansAll_28 0 rfl ?_
    refine g_getf C (k := 52) (kd := 0) okX12 (by decide) kf_RX12_402 dX12_plansAll_29 (rg_ hC T0.1) T0.2.1 rfl ?_
    refine g_icmp_ge C 56 dX12_plansAll_32 rfl (fun c6 => ?_) (fun c6 => ?_)
    · replace h := if_t h c6
      cases h
      exact g_vret C dX12_plansAll_56 hr hlk
    · replace h := if_f h c6
      refine g_aload_n C (f := 0) dX12_plansAll_35 0 rfl ?_
      refine g_iload_n C (f := 1) dX12_plansAll_36 1 rfl ?_
      obtain ⟨q7, eq7, h⟩ := bd_e h
      refine g_cV C [(0, x1)] (cX12_fillsItems_ok l hC T0 eq7) okX12 T0.2.1 (rg_ hC T0.1) km_RX12_485 cv_X12_fillsItems rfl (by decide) rfl rfl (Nat.le_of_ble_eq_true rfl) dX12_plansAll_37 ?_
      refine g_aload_n C (f := 0) dX12_plansAll_40 0 rfl ?_
      refine g_iload_n C (f := 1) dX12_plansAll_41 1 rfl ?_
      obtain ⟨q8, eq8, h⟩ := bd_e h
      refine g_cV C [(0, x1)] (cX12_fillsNeeds_ok l hC T0 eq8) okX12 T0.2.1 (rg_ hC T0.1) km_RX12_488 cv_X12_fillsNeeds rfl (by decide) rfl rfl (Nat.le_of_ble_eq_true rfl) dX12_plansAll_42 ?_
      refine g_aload_n C (f := 0) dX12_plansAll_45 0 rfl ?_
      refine g_iload_n C (f := 1) dX12_plansAll_46 1 rfl ?_
      obtain ⟨q9, eq9, h⟩ := bd_e h
      refine g_cV C [(0, x1)] (cX12_laysTrace_ok l hC T0 eq9) okX12 T0.2.1 (rg_ hC T0.1) km_RX12_491 cv_X12_laysTrace rfl (by decide) rfl rfl (Nat.le_of_ble_eq_true rfl) dX12_plansAll_47 ?_
      obtain ⟨y10, ey10, h⟩ := lt_e h
      refine g_iincx C (ls' := [(1, (0, y10)), (0, (2, x0))]) ey10 dX12_plansAll_50 1 rfl (by decide) (by decide) rfl ?_
      refine g_goto C 27 dX12_plansAll_53 rfl ?_
      refine g_sub [1, 0] rfl rfl ?_
      exact H_27 _ _ _ T0 h
end
theorem cX12_plansAll_ok (l : Launch) {E : En_} {sz : Int} (hC : Cl_ E.2.2.2.2.2 sz) {x0 : Int} {v : V_} {out : Int × V_} (T0 : (E.2.2.2.2.2 x0 ∧ ty_ x0 = 12 ∧ ln_ x0 = 0)) (h : fX12_plansAll x0 v = some out) : Met l yX12_plansAll [.code yX12_plansAll cX12_plansAll 2 (none : Option FieldType)] (rm_ 5 112) (Pc_ E sz v [(2, x0)]) (Qc_ E sz 9 out.1 out.2) 0 0 (fun q => E.1 < q) := by
  refine met_G0 RX12 (by decide +kernel) rfl (Nat.le_of_ble_eq_true rfl) ?_
  intro p e s m args below meth c C hr hlk
  rw [fX12_plansAll] at h
  refine g_aload_n C (f := 0) dX12_plansAll_0 0 rfl ?_
  obtain ⟨q1, eq1, h⟩ := bd_e h
  refine g_cV C [] (cX12_copies_ok l hC T0 eq1) okX12 T0.2.1 (rg_ hC T0.1) km_RX12_476 cv_X12_copies rfl (by decide) rfl rfl (Nat.le_of_ble_eq_true rfl) dX12_plansAll_1 ?_
  refine g_aload_n C (f := 0) dX12_plansAll_4 0 rfl ?_
  refine g_getf C (k := 69) (kd := 0) okX12 (by decide) kf_RX12_287 dX12_plansAll_5 (rg_ hC T0.1) T0.2.1 rfl ?_
  refine g_if_eq C 12 dX12_plansAll_8 rfl (fun c2 => ?_) (fun c2 => ?_)
  · replace h := if_t h c2
    refine g_aload_n C (f := 0) dX12_plansAll_12 0 rfl ?_
    refine g_iconst C (n := 1) dX12_plansAll_13 (by decide) ?_
    obtain ⟨v3, ev3, h⟩ := lt_e h
    refine g_putf C (k := 69) (kd := 0) okX12 (by decide) kf_RX12_287 dX12_plansAll_14 (rg_ hC T0.1) T0.2.1 rfl rfl (nvZ (Or.inr rfl)) (Or.inl rfl) v3 ev3 ?_
    refine g_aload_n C (f := 0) dX12_plansAll_17 0 rfl ?_
    obtain ⟨q4, eq4, h⟩ := bd_e h
    refine g_cV C [] (cX12_fillsLive_ok l hC T0 eq4) okX12 T0.2.1 (rg_ hC T0.1) km_RX12_479 cv_X12_fillsLive rfl (by decide) rfl rfl (Nat.le_of_ble_eq_true rfl) dX12_plansAll_18 ?_
    refine g_aload_n C (f := 0) dX12_plansAll_21 0 rfl ?_
    obtain ⟨q5, eq5, h⟩ := bd_e h
    refine g_cV C [] (cX12_fillsTraces_ok l hC T0 eq5) okX12 T0.2.1 (rg_ hC T0.1) km_RX12_482 cv_X12_fillsTraces rfl (by decide) rfl rfl (Nat.le_of_ble_eq_true rfl) dX12_plansAll_22 ?_
    refine g_iconst C (n := 0) dX12_plansAll_25 (by decide) ?_
    refine g_istore_n C (f := 1) (ls' := [(1, (0, 0)), (0, (2, x0))]) dX12_plansAll_26 (by decide) rfl ?_
    refine g_sub [1, 0] rfl rfl ?_
    exact tX12_plansAll_27 C hr hlk hC _ _ _ _ T0 h
  · replace h := if_f h c2
    cases h
    exact g_vret C dX12_plansAll_11 hr hlk
theorem dX12_valueOf_0 : decode cX12_valueOf 0 = .ok (.iload_n 1, 1) := by decide +kernel
theorem dX12_valueOf_1 : decode cX12_valueOf 1 = .ok (.bipush 20, 2) := by decide +kernel
theorem dX12_valueOf_3 : decode cX12_valueOf 3 = .ok (.if_icmp .lt 10, 3) := by decide +kernel
theorem dX12_valueOf_6 : decode cX12_valueOf 6 = .ok (.iload_n 1, 1) := by decide +kernel
theorem dX12_valueOf_7 : decode cX12_valueOf 7 = .ok (.bipush 20, 2) := by decide +kernel
theorem dX12_valueOf_9 : decode cX12_valueOf 9 = .ok (.isub, 1) := by decide +kernel
theorem dX12_valueOf_10 : decode cX12_valueOf 10 = .ok (.goto 9, 3) := by decide +kernel
theorem dX12_valueOf_13 : decode cX12_valueOf 13 = .ok (.aload_n 0, 1) := by decide +kernel
theorem dX12_valueOf_14 : decode cX12_valueOf 14 = .ok (.getfield 91, 3) := by decide +kernel
theorem dX12_valueOf_17 : decode cX12_valueOf 17 = .ok (.iload_n 1, 1) := by decide +kernel
theorem dX12_valueOf_18 : decode cX12_valueOf 18 = .ok (.iaload, 1) := by decide +kernel
theorem dX12_valueOf_19 : decode cX12_valueOf 19 = .ok (.ireturn, 1) := by decide +kernel
def fX12_valueOf (x0 x1 : Int) (v : V_) : Option (Int × V_) :=
  if x1 < 20 then (
    ck_ (0 ≤ x1 ∧ x1 < 12) (
    some (v (x0 + 25) x1, v)))
  else (
    some (wr_ (x1 - 20), v))
theorem cX12_valueOf_ok (l : Launch) {E : En_} {sz : Int} (hC : Cl_ E.2.2.2.2.2 sz) {x0 x1 : Int} {v : V_} {out : Int × V_} (T0 : (E.2.2.2.2.2 x0 ∧ ty_ x0 = 12 ∧ ln_ x0 = 0)) (h : fX12_valueOf x0 x1 v = some out) : Met l yX12_valueOf [.code yX12_valueOf cX12_valueOf 2 (some FieldType.int)] (rm_ 0 0) (Pc_ E sz v [(2, x0), (0, x1)]) (Qc_ E sz 0 out.1 out.2) 0 0 (fun q => E.1 < q) := by
  refine met_G0 RX12 (by decide +kernel) rfl (Nat.le_of_ble_eq_true rfl) ?_
  intro p e s m args below meth c C hr hlk
  rw [fX12_valueOf] at h
  refine g_iload_n C (f := 1) dX12_valueOf_0 1 rfl ?_
  refine g_bipush C (n := 20) dX12_valueOf_1 (by decide) ?_
  refine g_icmp_lt C 13 dX12_valueOf_3 rfl (fun c1 => ?_) (fun c1 => ?_)
  · replace h := if_t h c1
    refine g_aload_n C (f := 0) dX12_valueOf_13 0 rfl ?_
    have F2 := fX12_38 hC T0.1 T0.2.1
    refine g_getR C (k := 38) (o := 25) okX12 (by decide) kf_RX12_91 dX12_valueOf_14 hC T0.1 T0.2.1 rfl rfl ?_
    refine g_iload_n C (f := 1) dX12_valueOf_17 1 rfl ?_
    obtain ⟨c3, h⟩ := ck_e h
    refine g_iald C 12 dX12_valueOf_18 (rg_ hC F2.1) F2.2.1 F2.2.2 c3 ?_
    cases h
    exact g_iret C dX12_valueOf_19 hr hlk
  · replace h := if_f h c1
    refine g_iload_n C (f := 1) dX12_valueOf_6 1 rfl ?_
    refine g_bipush C (n := 20) dX12_valueOf_7 (by decide) ?_
    refine g_isub C dX12_valueOf_9 ?_
    refine g_goto C 19 dX12_valueOf_10 rfl ?_
    cases h
    exact g_iret C dX12_valueOf_19 hr hlk
theorem dX12_endDone_0 : decode cX12_endDone 0 = .ok (.bipush 8, 2) := by decide +kernel
theorem dX12_endDone_2 : decode cX12_endDone 2 = .ok (.aload_n 0, 1) := by decide +kernel
theorem dX12_endDone_3 : decode cX12_endDone 3 = .ok (.getfield 272, 3) := by decide +kernel
theorem dX12_endDone_6 : decode cX12_endDone 6 = .ok (.imul, 1) := by decide +kernel
theorem dX12_endDone_7 : decode cX12_endDone 7 = .ok (.iload_n 1, 1) := by decide +kernel
theorem dX12_endDone_8 : decode cX12_endDone 8 = .ok (.iadd, 1) := by decide +kernel
theorem dX12_endDone_9 : decode cX12_endDone 9 = .ok (.istore_n 2, 1) := by decide +kernel
theorem dX12_endDone_10 : decode cX12_endDone 10 = .ok (.aload_n 0, 1) := by decide +kernel
theorem dX12_endDone_11 : decode cX12_endDone 11 = .ok (.dup, 1) := by decide +kernel
theorem dX12_endDone_12 : decode cX12_endDone 12 = .ok (.getfield 353, 3) := by decide +kernel
theorem dX12_endDone_15 : decode cX12_endDone 15 = .ok (.aload_n 0, 1) := by decide +kernel
theorem dX12_endDone_16 : decode cX12_endDone 16 = .ok (.iconst 3, 1) := by decide +kernel
theorem dX12_endDone_17 : decode cX12_endDone 17 = .ok (.invokevirtual 375, 3) := by decide +kernel
theorem dX12_endDone_20 : decode cX12_endDone 20 = .ok (.iadd, 1) := by decide +kernel
theorem dX12_endDone_21 : decode cX12_endDone 21 = .ok (.putfield 353, 3) := by decide +kernel
theorem dX12_endDone_24 : decode cX12_endDone 24 = .ok (.aload_n 0, 1) := by decide +kernel
theorem dX12_endDone_25 : decode cX12_endDone 25 = .ok (.getfield 70, 3) := by decide +kernel
theorem dX12_endDone_28 : decode cX12_endDone 28 = .ok (.iload_n 2, 1) := by decide +kernel
theorem dX12_endDone_29 : decode cX12_endDone 29 = .ok (.iaload, 1) := by decide +kernel
theorem dX12_endDone_30 : decode cX12_endDone 30 = .ok (.iconst 2, 1) := by decide +kernel
theorem dX12_endDone_31 : decode cX12_endDone 31 = .ok (.if_icmp .ne 6, 3) := by decide +kernel
theorem dX12_endDone_34 : decode cX12_endDone 34 = .ok (.bipush (-2), 2) := by decide +kernel
theorem dX12_endDone_36 : decode cX12_endDone 36 = .ok (.ireturn, 1) := by decide +kernel
theorem dX12_endDone_37 : decode cX12_endDone 37 = .ok (.aload_n 0, 1) := by decide +kernel
theorem dX12_endDone_38 : decode cX12_endDone 38 = .ok (.getfield 70, 3) := by decide +kernel
theorem dX12_endDone_41 : decode cX12_endDone 41 = .ok (.iload_n 2, 1) := by decide +kernel
theorem dX12_endDone_42 : decode cX12_endDone 42 = .ok (.iaload, 1) := by decide +kernel
theorem dX12_endDone_43 : decode cX12_endDone 43 = .ok (.ifCond .eq 26, 3) := by decide +kernel
theorem dX12_endDone_46 : decode cX12_endDone 46 = .ok (.aload_n 0, 1) := by decide +kernel
theorem dX12_endDone_47 : decode cX12_endDone 47 = .ok (.aload_n 0, 1) := by decide +kernel
theorem dX12_endDone_48 : decode cX12_endDone 48 = .ok (.getfield 73, 3) := by decide +kernel
theorem dX12_endDone_51 : decode cX12_endDone 51 = .ok (.iload_n 2, 1) := by decide +kernel
theorem dX12_endDone_52 : decode cX12_endDone 52 = .ok (.iaload, 1) := by decide +kernel
theorem dX12_endDone_53 : decode cX12_endDone 53 = .ok (.invokevirtual 341, 3) := by decide +kernel
theorem dX12_endDone_56 : decode cX12_endDone 56 = .ok (.aload_n 0, 1) := by decide +kernel
theorem dX12_endDone_57 : decode cX12_endDone 57 = .ok (.aload_n 0, 1) := by decide +kernel
theorem dX12_endDone_58 : decode cX12_endDone 58 = .ok (.getfield 76, 3) := by decide +kernel
theorem dX12_endDone_61 : decode cX12_endDone 61 = .ok (.iload_n 2, 1) := by decide +kernel
theorem dX12_endDone_62 : decode cX12_endDone 62 = .ok (.iaload, 1) := by decide +kernel
theorem dX12_endDone_63 : decode cX12_endDone 63 = .ok (.invokevirtual 341, 3) := by decide +kernel
theorem dX12_endDone_66 : decode cX12_endDone 66 = .ok (.if_icmp .ge 7, 3) := by decide +kernel
theorem dX12_endDone_69 : decode cX12_endDone 69 = .ok (.iconst 0, 1) := by decide +kernel
theorem dX12_endDone_70 : decode cX12_endDone 70 = .ok (.goto 4, 3) := by decide +kernel
theorem dX12_endDone_73 : decode cX12_endDone 73 = .ok (.iconst 1, 1) := by decide +kernel
theorem dX12_endDone_74 : decode cX12_endDone 74 = .ok (.istore_n 3, 1) := by decide +kernel
theorem dX12_endDone_75 : decode cX12_endDone 75 = .ok (.aload_n 0, 1) := by decide +kernel
theorem dX12_endDone_76 : decode cX12_endDone 76 = .ok (.getfield 100, 3) := by decide +kernel
theorem dX12_endDone_79 : decode cX12_endDone 79 = .ok (.iconst 2, 1) := by decide +kernel
theorem dX12_endDone_80 : decode cX12_endDone 80 = .ok (.iload_n 1, 1) := by decide +kernel
theorem dX12_endDone_81 : decode cX12_endDone 81 = .ok (.imul, 1) := by decide +kernel
theorem dX12_endDone_82 : decode cX12_endDone 82 = .ok (.iload_n 3, 1) := by decide +kernel
theorem dX12_endDone_83 : decode cX12_endDone 83 = .ok (.iadd, 1) := by decide +kernel
theorem dX12_endDone_84 : decode cX12_endDone 84 = .ok (.dup2, 1) := by decide +kernel
theorem dX12_endDone_85 : decode cX12_endDone 85 = .ok (.iaload, 1) := by decide +kernel
theorem dX12_endDone_86 : decode cX12_endDone 86 = .ok (.iconst 1, 1) := by decide +kernel
theorem dX12_endDone_87 : decode cX12_endDone 87 = .ok (.iadd, 1) := by decide +kernel
theorem dX12_endDone_88 : decode cX12_endDone 88 = .ok (.iastore, 1) := by decide +kernel
theorem dX12_endDone_89 : decode cX12_endDone 89 = .ok (.aload_n 0, 1) := by decide +kernel
theorem dX12_endDone_90 : decode cX12_endDone 90 = .ok (.iload_n 1, 1) := by decide +kernel
theorem dX12_endDone_91 : decode cX12_endDone 91 = .ok (.iload_n 3, 1) := by decide +kernel
theorem dX12_endDone_92 : decode cX12_endDone 92 = .ok (.invokevirtual 378, 3) := by decide +kernel
theorem dX12_endDone_95 : decode cX12_endDone 95 = .ok (.ireturn, 1) := by decide +kernel
def fX12_endDone_74 (x0 x1 s0 : Int) (v : V_) : Option (Int × V_) :=
  ck_ (0 ≤ wr_ ((wr_ (2 * x1)) + s0) ∧ wr_ ((wr_ (2 * x1)) + s0) < 16) (
  ck_ (0 ≤ wr_ ((wr_ (2 * x1)) + s0) ∧ wr_ ((wr_ (2 * x1)) + s0) < 16) (
  lt_ (up_ v (x0 + 28) (wr_ ((wr_ (2 * x1)) + s0)) (wr_ ((v (x0 + 28) (wr_ ((wr_ (2 * x1)) + s0))) + 1))) fun v13 =>
  bd_ (fX12_wayTo x0 x1 s0 v13) fun q14 =>
  some (q14.1, q14.2)))
def fX12_endDone_69 (x0 x1 : Int) (v : V_) : Option (Int × V_) :=
  fX12_endDone_74 x0 x1 0 v
def fX12_endDone (x0 x1 : Int) (v : V_) : Option (Int × V_) :=
  lt_ (wr_ ((wr_ (8 * (v x0 18))) + x1)) fun y1 =>
  bd_ (fX12_takesOf x0 3 v) fun q2 =>
  lt_ (up_ q2.2 x0 45 (wr_ ((v x0 45) + q2.1))) fun v3 =>
  ck_ (0 ≤ y1 ∧ y1 < 16) (
  if (v3 (x0 + 18) y1) = 2 then (
    some ((-2), v3))
  else (
    ck_ (0 ≤ y1 ∧ y1 < 16) (
    if (v3 (x0 + 18) y1) = 0 then (
      fX12_endDone_69 x0 x1 v3)
    else (
      ck_ (0 ≤ y1 ∧ y1 < 16) (
      bd_ (fX12_valueOf x0 (v3 (x0 + 19) y1) v3) fun q17 =>
      ck_ (0 ≤ y1 ∧ y1 < 16) (
      bd_ (fX12_valueOf x0 (q17.2 (x0 + 20) y1) q17.2) fun q20 =>
      if q20.1 ≤ q17.1 then (
        fX12_endDone_74 x0 x1 1 q20.2)
      else (
        fX12_endDone_69 x0 x1 q20.2)))))))
section
variable {E : En_} {p : Program} {l : Launch} {e : Env} {s : State} {m : MethodId} {args : Array Value} {below : List Frame} {meth : Method} {c : Code} {sz : Int}
theorem tX12_endDone_74 (C : MC_ E p s m c cX12_endDone 4 RX12) (hr : meth.sig.returnType = (some FieldType.int)) (hlk : meth.locks = false) (hC : Cl_ E.2.2.2.2.2 sz) {out : Int × V_} (x0 x1 s0 : Int) (v : V_) (T0 : (E.2.2.2.2.2 x0 ∧ ty_ x0 = 12 ∧ ln_ x0 = 0)) (h : fX12_endDone_74 x0 x1 s0 v = some out) : G_ E p l e (rm_ 1 22) s m args below meth c 4 sz (Q_ E below args s sz sz 0 out.1 out.2) 74 [(0, (2, x0)), (1, (0, x1))] [(0, s0)] v sz := by
  rw [fX12_endDone_74] at h
  refine g_istore_n C (f := 3) (ls' := [(3, (0, s0)), (0, (2, x0)), (1, (0, x1))]) dX12_endDone_74 (by decide) rfl ?_
  refine g_aload_n C (f := 0) dX12_endDone_75 1 rfl ?_
  have F10 := fX12_44 hC T0.1 T0.2.1
  refine g_getR C (k := 44) (o := 28) okX12 (by decide) kf_RX12_100 dX12_endDone_76 hC T0.1 T0.2.1 rfl rfl ?_
  refine g_iconst C (n := 2) dX12_endDone_79 (by decide) ?_
  refine g_iload_n C (f := 1) dX12_endDone_80 2 rfl ?_
  refine g_imul C dX12_endDone_81 ?_
  refine g_iload_n C (f := 3) dX12_endDone_82 0 rfl ?_
  refine g_iadd C dX12_endDone_83 ?_
  refine g_dup2 C (Nat.ne_of_beq_eq_false rfl) (Nat.ne_of_beq_eq_false rfl) dX12_endDone_84 ?_
  obtain ⟨c11, h⟩ := ck_e h
  refine g_iald C 16 dX12_endDone_85 (rg_ hC F10.1) F10.2.1 F10.2.2 c11 ?_
  refine g_iconst C (n := 1) dX12_endDone_86 (by decide) ?_
  refine g_iadd C dX12_endDone_87 ?_
  obtain ⟨c12, h⟩ := ck_e h
  obtain ⟨v13, ev13, h⟩ := lt_e h
  refine g_iast C 16 dX12_endDone_88 (rg_ hC F10.1) F10.2.1 F10.2.2 c12 v13 ev13 ?_
  refine g_aload_n C (f := 0) dX12_endDone_89 1 rfl ?_
  refine g_iload_n C (f := 1) dX12_endDone_90 2 rfl ?_
  refine g_iload_n C (f := 3) dX12_endDone_91 0 rfl ?_
  obtain ⟨q14, eq14, h⟩ := bd_e h
  refine g_cV C [(0, x1), (0, s0)] (cX12_wayTo_ok l hC T0 eq14) okX12 T0.2.1 (rg_ hC T0.1) km_RX12_378 cv_X12_wayTo rfl (by decide) rfl rfl (Nat.le_of_ble_eq_true rfl) dX12_endDone_92 ?_
  cases h
  exact g_iret C dX12_endDone_95 hr hlk
theorem tX12_endDone_69 (C : MC_ E p s m c cX12_endDone 4 RX12) (hr : meth.sig.returnType = (some FieldType.int)) (hlk : meth.locks = false) (hC : Cl_ E.2.2.2.2.2 sz) {out : Int × V_} (x0 x1 : Int) (v : V_) (T0 : (E.2.2.2.2.2 x0 ∧ ty_ x0 = 12 ∧ ln_ x0 = 0)) (h : fX12_endDone_69 x0 x1 v = some out) : G_ E p l e (rm_ 1 22) s m args below meth c 4 sz (Q_ E below args s sz sz 0 out.1 out.2) 69 [(0, (2, x0)), (1, (0, x1))] [] v sz := by
  rw [fX12_endDone_69] at h
  refine g_iconst C (n := 0) dX12_endDone_69 (by decide) ?_
  refine g_goto C 74 dX12_endDone_70 rfl ?_
  refine g_sub [0, 1] rfl rfl ?_
  exact tX12_endDone_74 C hr hlk hC _ _ _ _ T0 h
end
theorem cX12_endDone_ok (l : Launch) {E : En_} {sz : Int} (hC : Cl_ E.2.2.2.2.2 sz) {x0 x1 : Int} {v : V_} {out : Int × V_} (T0 : (E.2.2.2.2.2 x0 ∧ ty_ x0 = 12 ∧ ln_ x0 = 0)) (h : fX12_endDone x0 x1 v = some out) : Met l yX12_endDone [.code yX12_endDone cX12_endDone 4 (some FieldType.int)] (rm_ 1 22) (Pc_ E sz v [(2, x0), (0, x1)]) (Qc_ E sz 0 out.1 out.2) 0 0 (fun q => E.1 < q) := by
  refine met_G0 RX12 (by decide +kernel) rfl (Nat.le_of_ble_eq_true rfl) ?_
  intro p e s m args below meth c C hr hlk
  rw [fX12_endDone] at h
  refine g_bipush C (n := 8) dX12_endDone_0 (by decide) ?_
  refine g_aload_n C (f := 0) dX12_endDone_2 0 rfl ?_
  refine g_getf C (k := 18) (kd := 0) okX12 (by decide) kf_RX12_272 dX12_endDone_3 (rg_ hC T0.1) T0.2.1 rfl ?_
  refine g_imul C dX12_endDone_6 ?_
  refine g_iload_n C (f := 1) dX12_endDone_7 1 rfl ?_
  refine g_iadd C dX12_endDone_8 ?_
  obtain ⟨y1, ey1, h⟩ := lt_e h
  refine g_set C ey1 ?_
  refine g_istore_n C (f := 2) (ls' := [(2, (0, y1)), (0, (2, x0)), (1, (0, x1))]) dX12_endDone_9 (by decide) rfl ?_
  refine g_aload_n C (f := 0) dX12_endDone_10 1 rfl ?_
  refine g_dup C (Nat.ne_of_beq_eq_false rfl) dX12_endDone_11 ?_
  refine g_getf C (k := 45) (kd := 0) okX12 (by decide) kf_RX12_353 dX12_endDone_12 (rg_ hC T0.1) T0.2.1 rfl ?_
  refine g_aload_n C (f := 0) dX12_endDone_15 1 rfl ?_
  refine g_iconst C (n := 3) dX12_endDone_16 (by decide) ?_
  obtain ⟨q2, eq2, h⟩ := bd_e h
  refine g_cV C [(0, 3)] (cX12_takesOf_ok l hC T0 eq2) okX12 T0.2.1 (rg_ hC T0.1) km_RX12_375 cv_X12_takesOf rfl (by decide) rfl rfl (Nat.le_of_ble_eq_true rfl) dX12_endDone_17 ?_
  refine g_iadd C dX12_endDone_20 ?_
  obtain ⟨v3, ev3, h⟩ := lt_e h
  refine g_putf C (k := 45) (kd := 0) okX12 (by decide) kf_RX12_353 dX12_endDone_21 (rg_ hC T0.1) T0.2.1 rfl rfl nvI (Or.inl rfl) v3 ev3 ?_
  refine g_aload_n C (f := 0) dX12_endDone_24 1 rfl ?_
  have F4 := fX12_31 hC T0.1 T0.2.1
  refine g_getR C (k := 31) (o := 18) okX12 (by decide) kf_RX12_70 dX12_endDone_25 hC T0.1 T0.2.1 rfl rfl ?_
  refine g_iload_n C (f := 2) dX12_endDone_28 0 rfl ?_
  obtain ⟨c5, h⟩ := ck_e h
  refine g_iald C 16 dX12_endDone_29 (rg_ hC F4.1) F4.2.1 F4.2.2 c5 ?_
  refine g_iconst C (n := 2) dX12_endDone_30 (by decide) ?_
  refine g_icmp_ne C 37 dX12_endDone_31 rfl (fun c6 => ?_) (fun c6 => ?_)
  · replace h := if_f h c6
    refine g_aload_n C (f := 0) dX12_endDone_37 1 rfl ?_
    have F7 := fX12_31 hC T0.1 T0.2.1
    refine g_getR C (k := 31) (o := 18) okX12 (by decide) kf_RX12_70 dX12_endDone_38 hC T0.1 T0.2.1 rfl rfl ?_
    refine g_iload_n C (f := 2) dX12_endDone_41 0 rfl ?_
    obtain ⟨c8, h⟩ := ck_e h
    refine g_iald C 16 dX12_endDone_42 (rg_ hC F7.1) F7.2.1 F7.2.2 c8 ?_
    refine g_if_eq C 69 dX12_endDone_43 rfl (fun c9 => ?_) (fun c9 => ?_)
    · replace h := if_t h c9
      refine g_sub [1, 2] rfl rfl ?_
      exact tX12_endDone_69 C hr hlk hC _ _ _ T0 h
    · replace h := if_f h c9
      refine g_aload_n C (f := 0) dX12_endDone_46 1 rfl ?_
      refine g_aload_n C (f := 0) dX12_endDone_47 1 rfl ?_
      have F15 := fX12_32 hC T0.1 T0.2.1
      refine g_getR C (k := 32) (o := 19) okX12 (by decide) kf_RX12_73 dX12_endDone_48 hC T0.1 T0.2.1 rfl rfl ?_
      refine g_iload_n C (f := 2) dX12_endDone_51 0 rfl ?_
      obtain ⟨c16, h⟩ := ck_e h
      refine g_iald C 16 dX12_endDone_52 (rg_ hC F15.1) F15.2.1 F15.2.2 c16 ?_
      obtain ⟨q17, eq17, h⟩ := bd_e h
      refine g_cV C [(0, v3 (x0 + 19) y1)] (cX12_valueOf_ok l hC T0 eq17) okX12 T0.2.1 (rg_ hC T0.1) km_RX12_341 cv_X12_valueOf rfl (by decide) rfl rfl (Nat.le_of_ble_eq_true rfl) dX12_endDone_53 ?_
      refine g_aload_n C (f := 0) dX12_endDone_56 1 rfl ?_
      refine g_aload_n C (f := 0) dX12_endDone_57 1 rfl ?_
      have F18 := fX12_33 hC T0.1 T0.2.1
      refine g_getR C (k := 33) (o := 20) okX12 (by decide) kf_RX12_76 dX12_endDone_58 hC T0.1 T0.2.1 rfl rfl ?_
      refine g_iload_n C (f := 2) dX12_endDone_61 0 rfl ?_
      obtain ⟨c19, h⟩ := ck_e h
      refine g_iald C 16 dX12_endDone_62 (rg_ hC F18.1) F18.2.1 F18.2.2 c19 ?_
      obtain ⟨q20, eq20, h⟩ := bd_e h
      refine g_cV C [(0, q17.2 (x0 + 20) y1)] (cX12_valueOf_ok l hC T0 eq20) okX12 T0.2.1 (rg_ hC T0.1) km_RX12_341 cv_X12_valueOf rfl (by decide) rfl rfl (Nat.le_of_ble_eq_true rfl) dX12_endDone_63 ?_
      refine g_icmp_ge C 73 dX12_endDone_66 rfl (fun c21 => ?_) (fun c21 => ?_)
      · replace h := if_t h c21
        refine g_iconst C (n := 1) dX12_endDone_73 (by decide) ?_
        refine g_sub [1, 2] rfl rfl ?_
        exact tX12_endDone_74 C hr hlk hC _ _ _ _ T0 h
      · replace h := if_f h c21
        refine g_sub [1, 2] rfl rfl ?_
        exact tX12_endDone_69 C hr hlk hC _ _ _ T0 h
  · replace h := if_t h c6
    refine g_bipush C (n := (-2)) dX12_endDone_34 (by decide) ?_
    cases h
    exact g_iret C dX12_endDone_36 hr hlk
