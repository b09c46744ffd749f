theorem dX10_findHeights_0 : decode cX10_findHeights 0 = .ok (.aload_n 0, 1) := by decide +kernel
theorem dX10_findHeights_1 : decode cX10_findHeights 1 = .ok (.iconst 0, 1) := by decide +kernel
theorem dX10_findHeights_2 : decode cX10_findHeights 2 = .ok (.putfield 178, 3) := by decide +kernel
theorem dX10_findHeights_5 : decode cX10_findHeights 5 = .ok (.aload_n 0, 1) := by decide +kernel
theorem dX10_findHeights_6 : decode cX10_findHeights 6 = .ok (.getfield 38, 3) := by decide +kernel
theorem dX10_findHeights_9 : decode cX10_findHeights 9 = .ok (.iconst 1, 1) := by decide +kernel
theorem dX10_findHeights_10 : decode cX10_findHeights 10 = .ok (.isub, 1) := by decide +kernel
theorem dX10_findHeights_11 : decode cX10_findHeights 11 = .ok (.istore_n 1, 1) := by decide +kernel
theorem dX10_findHeights_12 : decode cX10_findHeights 12 = .ok (.iload_n 1, 1) := by decide +kernel
theorem dX10_findHeights_13 : decode cX10_findHeights 13 = .ok (.ifCond .lt 95, 3) := by decide +kernel
theorem dX10_findHeights_16 : decode cX10_findHeights 16 = .ok (.iload_n 1, 1) := by decide +kernel
theorem dX10_findHeights_17 : decode cX10_findHeights 17 = .ok (.iconst 1, 1) := by decide +kernel
theorem dX10_findHeights_18 : decode cX10_findHeights 18 = .ok (.iadd, 1) := by decide +kernel
theorem dX10_findHeights_19 : decode cX10_findHeights 19 = .ok (.istore_n 2, 1) := by decide +kernel
theorem dX10_findHeights_20 : decode cX10_findHeights 20 = .ok (.iload_n 2, 1) := by decide +kernel
theorem dX10_findHeights_21 : decode cX10_findHeights 21 = .ok (.aload_n 0, 1) := by decide +kernel
theorem dX10_findHeights_22 : decode cX10_findHeights 22 = .ok (.getfield 38, 3) := by decide +kernel
theorem dX10_findHeights_25 : decode cX10_findHeights 25 = .ok (.if_icmp .ge 55, 3) := by decide +kernel
theorem dX10_findHeights_28 : decode cX10_findHeights 28 = .ok (.aload_n 0, 1) := by decide +kernel
theorem dX10_findHeights_29 : decode cX10_findHeights 29 = .ok (.iload_n 1, 1) := by decide +kernel
theorem dX10_findHeights_30 : decode cX10_findHeights 30 = .ok (.iload_n 2, 1) := by decide +kernel
theorem dX10_findHeights_31 : decode cX10_findHeights 31 = .ok (.invokevirtual 175, 3) := by decide +kernel
theorem dX10_findHeights_34 : decode cX10_findHeights 34 = .ok (.ifCond .lt 40, 3) := by decide +kernel
theorem dX10_findHeights_37 : decode cX10_findHeights 37 = .ok (.aload_n 0, 1) := by decide +kernel
theorem dX10_findHeights_38 : decode cX10_findHeights 38 = .ok (.getfield 17, 3) := by decide +kernel
theorem dX10_findHeights_41 : decode cX10_findHeights 41 = .ok (.iload_n 1, 1) := by decide +kernel
theorem dX10_findHeights_42 : decode cX10_findHeights 42 = .ok (.aaload, 1) := by decide +kernel
theorem dX10_findHeights_43 : decode cX10_findHeights 43 = .ok (.aload_n 0, 1) := by decide +kernel
theorem dX10_findHeights_44 : decode cX10_findHeights 44 = .ok (.getfield 17, 3) := by decide +kernel
theorem dX10_findHeights_47 : decode cX10_findHeights 47 = .ok (.iload_n 1, 1) := by decide +kernel
theorem dX10_findHeights_48 : decode cX10_findHeights 48 = .ok (.aaload, 1) := by decide +kernel
theorem dX10_findHeights_49 : decode cX10_findHeights 49 = .ok (.getfield 181, 3) := by decide +kernel
theorem dX10_findHeights_52 : decode cX10_findHeights 52 = .ok (.aload_n 0, 1) := by decide +kernel
theorem dX10_findHeights_53 : decode cX10_findHeights 53 = .ok (.iload_n 1, 1) := by decide +kernel
theorem dX10_findHeights_54 : decode cX10_findHeights 54 = .ok (.iload_n 2, 1) := by decide +kernel
theorem dX10_findHeights_55 : decode cX10_findHeights 55 = .ok (.invokevirtual 175, 3) := by decide +kernel
theorem dX10_findHeights_58 : decode cX10_findHeights 58 = .ok (.aload_n 0, 1) := by decide +kernel
theorem dX10_findHeights_59 : decode cX10_findHeights 59 = .ok (.getfield 17, 3) := by decide +kernel
theorem dX10_findHeights_62 : decode cX10_findHeights 62 = .ok (.iload_n 2, 1) := by decide +kernel
theorem dX10_findHeights_63 : decode cX10_findHeights 63 = .ok (.aaload, 1) := by decide +kernel
theorem dX10_findHeights_64 : decode cX10_findHeights 64 = .ok (.getfield 181, 3) := by decide +kernel
theorem dX10_findHeights_67 : decode cX10_findHeights 67 = .ok (.iadd, 1) := by decide +kernel
theorem dX10_findHeights_68 : decode cX10_findHeights 68 = .ok (.invokestatic 170, 3) := by decide +kernel
theorem dX10_findHeights_71 : decode cX10_findHeights 71 = .ok (.putfield 181, 3) := by decide +kernel
theorem dX10_findHeights_74 : decode cX10_findHeights 74 = .ok (.iinc 2 1, 3) := by decide +kernel
theorem dX10_findHeights_77 : decode cX10_findHeights 77 = .ok (.goto (-57), 3) := by decide +kernel
theorem dX10_findHeights_80 : decode cX10_findHeights 80 = .ok (.aload_n 0, 1) := by decide +kernel
theorem dX10_findHeights_81 : decode cX10_findHeights 81 = .ok (.aload_n 0, 1) := by decide +kernel
theorem dX10_findHeights_82 : decode cX10_findHeights 82 = .ok (.getfield 178, 3) := by decide +kernel
theorem dX10_findHeights_85 : decode cX10_findHeights 85 = .ok (.aload_n 0, 1) := by decide +kernel
theorem dX10_findHeights_86 : decode cX10_findHeights 86 = .ok (.getfield 17, 3) := by decide +kernel
theorem dX10_findHeights_89 : decode cX10_findHeights 89 = .ok (.iload_n 1, 1) := by decide +kernel
theorem dX10_findHeights_90 : decode cX10_findHeights 90 = .ok (.aaload, 1) := by decide +kernel
theorem dX10_findHeights_91 : decode cX10_findHeights 91 = .ok (.getfield 181, 3) := by decide +kernel
theorem dX10_findHeights_94 : decode cX10_findHeights 94 = .ok (.iconst 1, 1) := by decide +kernel
theorem dX10_findHeights_95 : decode cX10_findHeights 95 = .ok (.iadd, 1) := by decide +kernel
theorem dX10_findHeights_96 : decode cX10_findHeights 96 = .ok (.invokestatic 170, 3) := by decide +kernel
theorem dX10_findHeights_99 : decode cX10_findHeights 99 = .ok (.putfield 178, 3) := by decide +kernel
theorem dX10_findHeights_102 : decode cX10_findHeights 102 = .ok (.iinc 1 (-1), 3) := by decide +kernel
theorem dX10_findHeights_105 : decode cX10_findHeights 105 = .ok (.goto (-93), 3) := by decide +kernel
theorem dX10_findHeights_108 : decode cX10_findHeights 108 = .ok (.return_, 1) := by decide +kernel
def fX10_findHeights_20 (k12 : Int → Int → V_ → Option (Int × V_)) : Nat → Int → Int → Int → V_ → Option (Int × V_)
  | 0, _, _, _, _ => none
  | n + 1, x0, x1, x2, v =>
    if (v x0 3) ≤ x2 then (
      ck_ (0 ≤ x1 ∧ x1 < 34) (
      lt_ (up_ v x0 7 (mx_ (v x0 7) (wr_ ((v ((x0 + 2) + (5 + 2 * x1)) 8) + 1)))) fun v9 =>
      lt_ (wr_ (x1 + (-1))) fun y10 =>
      k12 x0 y10 v9))
    else (
      bd_ (fX10_needOf x0 x1 x2 v) fun q11 =>
      if q11.1 < 0 then (
        lt_ (wr_ (x2 + 1)) fun y13 =>
        (fX10_findHeights_20 k12 n) x0 x1 y13 q11.2)
      else (
        ck_ (0 ≤ x1 ∧ x1 < 34) (
        ck_ (0 ≤ x1 ∧ x1 < 34) (
        bd_ (fX10_needOf x0 x1 x2 q11.2) fun q20 =>
        ck_ (0 ≤ x2 ∧ x2 < 34) (
        lt_ (up_ q20.2 ((x0 + 2) + (5 + 2 * x1)) 8 (mx_ (q11.2 ((x0 + 2) + (5 + 2 * x1)) 8) (wr_ (q20.1 + (q20.2 ((x0 + 2) + (5 + 2 * x2)) 8))))) fun v24 =>
        lt_ (wr_ (x2 + 1)) fun y25 =>
        (fX10_findHeights_20 k12 n) x0 x1 y25 v24)))))
def fX10_findHeights_12 : Nat → Int → Int → V_ → Option (Int × V_)
  | 0, _, _, _ => none
  | n + 1, x0, x1, v =>
    if x1 < 0 then (
      some (0, v))
    else (
      lt_ (wr_ (x1 + 1)) fun y4 =>
      fX10_findHeights_20 (fX10_findHeights_12 n) fu_ x0 x1 y4 v)
def fX10_findHeights (x0 : Int) (v : V_) : Option (Int × V_) :=
  lt_ (up_ v x0 7 0) fun v1 =>
  lt_ (wr_ ((v1 x0 3) - 1)) fun y2 =>
  fX10_findHeights_12 fu_ x0 y2 v1
section
variable {E : En_} {p : Program} {l : Launch} {e : Env} {s : State} {m : MethodId} {args : Array Value} {below : List Frame} {meth : Method} {c : Code} {sz : Int}
theorem tX10_findHeights_20 (C : MC_ E p s m c cX10_findHeights 3 RX10) (hr : meth.sig.returnType = (none : Option FieldType)) (hlk : meth.locks = false) (hC : Cl_ E.2.2.2.2.2 sz) {out : Int × V_} (k12 : Int → Int → V_ → Option (Int × V_)) (H_12 : ∀ (x0 x1 : Int) (v : V_), (E.2.2.2.2.2 x0 ∧ ty_ x0 = 10 ∧ ln_ x0 = 0) → k12 x0 x1 v = some out → G_ E p l e (rm_ 1 22) s m args below meth c 3 sz (Q_ E below args s sz sz 9 out.1 out.2) 12 [(0, (2, x0)), (1, (0, x1))] [] v sz) : ∀ (n : Nat) (x0 x1 x2 : Int) (v : V_), (E.2.2.2.2.2 x0 ∧ ty_ x0 = 10 ∧ ln_ x0 = 0) → fX10_findHeights_20 k12 n x0 x1 x2 v = some out → G_ E p l e (rm_ 1 22) s m args below meth c 3 sz (Q_ E below args s sz sz 9 out.1 out.2) 20 [(0, (2, x0)), (1, (0, x1)), (2, (0, x2))] [] v sz := by
  intro n
  induction n with
  | zero =>
    intro x0 x1 x2 v T0 h
    cases h
  | succ n H_20 =>
    intro x0 x1 x2 v T0 h
    rw [fX10_findHeights_20] at h
    refine g_iload_n C (f := 2) dX10_findHeights_20 2 rfl ?_
    refine g_aload_n C (f := 0) dX10_findHeights_21 0 rfl ?_
    refine g_getf C (k := 3) (kd := 0) okX10 (by decide) kf_RX10_38 dX10_findHeights_22 (rg_ hC T0.1) T0.2.1 rfl ?_
    refine g_icmp_ge C 80 dX10_findHeights_25 rfl (fun c5 => ?_) (fun c5 => ?_)
    · replace h := if_t h c5
      refine g_aload_n C (f := 0) dX10_findHeights_80 0 rfl ?_
      refine g_aload_n C (f := 0) dX10_findHeights_81 0 rfl ?_
      refine g_getf C (k := 7) (kd := 0) okX10 (by decide) kf_RX10_178 dX10_findHeights_82 (rg_ hC T0.1) T0.2.1 rfl ?_
      refine g_aload_n C (f := 0) dX10_findHeights_85 0 rfl ?_
      have F6 := fX10_2 hC T0.1 T0.2.1
      refine g_getR C (k := 2) (o := 2) okX10 (by decide) kf_RX10_17 dX10_findHeights_86 hC T0.1 T0.2.1 rfl rfl ?_
      refine g_iload_n C (f := 1) dX10_findHeights_89 1 rfl ?_
      obtain ⟨c7, h⟩ := ck_e h
      have F8 := fE_items (i := x1) hC F6.1 F6.2.1 F6.2.2 c7
      refine g_aald C 26 34 5 2 dX10_findHeights_90 hC F6.1 F6.2.1 F6.2.2 c7 (by decide) oA_items ?_
      refine g_getf C (k := 8) (kd := 0) okX1 (by decide) kf_RX10_181 dX10_findHeights_91 (rg_ hC F8.1) F8.2.1 rfl ?_
      refine g_iconst C (n := 1) dX10_findHeights_94 (by decide) ?_
      refine g_iadd C dX10_findHeights_95 ?_
      refine g_max0 C km_RX10_170 dX10_findHeights_96 ⟨Nat.le_of_ble_eq_true rfl, Nat.le_of_ble_eq_true rfl⟩ ?_
      obtain ⟨v9, ev9, h⟩ := lt_e h
      refine g_putf C (k := 7) (kd := 0) okX10 (by decide) kf_RX10_178 dX10_findHeights_99 (rg_ hC T0.1) T0.2.1 rfl rfl nvI (Or.inl rfl) v9 ev9 ?_
      obtain ⟨y10, ey10, h⟩ := lt_e h
      refine g_iincx C (ls' := [(1, (0, y10)), (0, (2, x0)), (2, (0, x2))]) ey10 dX10_findHeights_102 1 rfl (by decide) (by decide) rfl ?_
      refine g_goto C 12 dX10_findHeights_105 rfl ?_
      refine g_sub [1, 0] rfl rfl ?_
      exact H_12 _ _ _ T0 h
    · replace h := if_f h c5
      refine g_aload_n C (f := 0) dX10_findHeights_28 0 rfl ?_
      refine g_iload_n C (f := 1) dX10_findHeights_29 1 rfl ?_
      refine g_iload_n C (f := 2) dX10_findHeights_30 2 rfl ?_
      obtain ⟨q11, eq11, h⟩ := bd_e h
      refine g_cV C [(0, x1), (0, x2)] (cX10_needOf_ok l hC T0 eq11) okX10 T0.2.1 (rg_ hC T0.1) km_RX10_175 cv_X10_needOf rfl (by decide) rfl rfl (Nat.le_of_ble_eq_true rfl) dX10_findHeights_31 ?_
      refine g_if_lt C 74 dX10_findHeights_34 rfl (fun c12 => ?_) (fun c12 => ?_)
      · replace h := if_t h c12
        obtain ⟨y13, ey13, h⟩ := lt_e h
        refine g_iincx C (ls' := [(2, (0, y13)), (0, (2, x0)), (1, (0, x1))]) ey13 dX10_findHeights_74 2 rfl (by decide) (by decide) rfl ?_
        refine g_goto C 20 dX10_findHeights_77 rfl ?_
        refine g_sub [1, 2, 0] rfl rfl ?_
        exact H_20 _ _ _ _ T0 h
      · replace h := if_f h c12
        refine g_aload_n C (f := 0) dX10_findHeights_37 0 rfl ?_
        have F14 := fX10_2 hC T0.1 T0.2.1
        refine g_getR C (k := 2) (o := 2) okX10 (by decide) kf_RX10_17 dX10_findHeights_38 hC T0.1 T0.2.1 rfl rfl ?_
        refine g_iload_n C (f := 1) dX10_findHeights_41 1 rfl ?_
        obtain ⟨c15, h⟩ := ck_e h
        have F16 := fE_items (i := x1) hC F14.1 F14.2.1 F14.2.2 c15
        refine g_aald C 26 34 5 2 dX10_findHeights_42 hC F14.1 F14.2.1 F14.2.2 c15 (by decide) oA_items ?_
        refine g_aload_n C (f := 0) dX10_findHeights_43 0 rfl ?_
        have F17 := fX10_2 hC T0.1 T0.2.1
        refine g_getR C (k := 2) (o := 2) okX10 (by decide) kf_RX10_17 dX10_findHeights_44 hC T0.1 T0.2.1 rfl rfl ?_
        refine g_iload_n C (f := 1) dX10_findHeights_47 1 rfl ?_
        obtain ⟨c18, h⟩ := ck_e h
        have F19 := fE_items (i := x1) hC F17.1 F17.2.1 F17.2.2 c18
        refine g_aald C 26 34 5 2 dX10_findHeights_48 hC F17.1 F17.2.1 F17.2.2 c18 (by decide) oA_items ?_
        refine g_getf C (k := 8) (kd := 0) okX1 (by decide) kf_RX10_181 dX10_findHeights_49 (rg_ hC F19.1) F19.2.1 rfl ?_
        refine g_aload_n C (f := 0) dX10_findHeights_52 0 rfl ?_
        refine g_iload_n C (f := 1) dX10_findHeights_53 1 rfl ?_
        refine g_iload_n C (f := 2) dX10_findHeights_54 2 rfl ?_
        obtain ⟨q20, eq20, h⟩ := bd_e h
        refine g_cV C [(0, x1), (0, x2)] (cX10_needOf_ok l hC T0 eq20) okX10 T0.2.1 (rg_ hC T0.1) km_RX10_175 cv_X10_needOf rfl (by decide) rfl rfl (Nat.le_of_ble_eq_true rfl) dX10_findHeights_55 ?_
        refine g_aload_n C (f := 0) dX10_findHeights_58 0 rfl ?_
        have F21 := fX10_2 hC T0.1 T0.2.1
        refine g_getR C (k := 2) (o := 2) okX10 (by decide) kf_RX10_17 dX10_findHeights_59 hC T0.1 T0.2.1 rfl rfl ?_
        refine g_iload_n C (f := 2) dX10_findHeights_62 2 rfl ?_
        obtain ⟨c22, h⟩ := ck_e h
        have F23 := fE_items (i := x2) hC F21.1 F21.2.1 F21.2.2 c22
        refine g_aald C 26 34 5 2 dX10_findHeights_63 hC F21.1 F21.2.1 F21.2.2 c22 (by decide) oA_items ?_
        refine g_getf C (k := 8) (kd := 0) okX1 (by decide) kf_RX10_181 dX10_findHeights_64 (rg_ hC F23.1) F23.2.1 rfl ?_
        refine g_iadd C dX10_findHeights_67 ?_
        refine g_max0 C km_RX10_170 dX10_findHeights_68 ⟨Nat.le_of_ble_eq_true rfl, Nat.le_of_ble_eq_true rfl⟩ ?_
        obtain ⟨v24, ev24, h⟩ := lt_e h
        refine g_putf C (k := 8) (kd := 0) okX1 (by decide) kf_RX10_181 dX10_findHeights_71 (rg_ hC F16.1) F16.2.1 rfl rfl nvI (Or.inl rfl) v24 ev24 ?_
        obtain ⟨y25, ey25, h⟩ := lt_e h
        refine g_iincx C (ls' := [(2, (0, y25)), (0, (2, x0)), (1, (0, x1))]) ey25 dX10_findHeights_74 2 rfl (by decide) (by decide) rfl ?_
        refine g_goto C 20 dX10_findHeights_77 rfl ?_
        refine g_sub [1, 2, 0] rfl rfl ?_
        exact H_20 _ _ _ _ T0 h
theorem tX10_findHeights_12 (C : MC_ E p s m c cX10_findHeights 3 RX10) (hr : meth.sig.returnType = (none : Option FieldType)) (hlk : meth.locks = false) (hC : Cl_ E.2.2.2.2.2 sz) {out : Int × V_} : ∀ (n : Nat) (x0 x1 : Int) (v : V_), (E.2.2.2.2.2 x0 ∧ ty_ x0 = 10 ∧ ln_ x0 = 0) → fX10_findHeights_12 n x0 x1 v = some out → G_ E p l e (rm_ 1 22) s m args below meth c 3 sz (Q_ E below args s sz sz 9 out.1 out.2) 12 [(0, (2, x0)), (1, (0, x1))] [] v sz := by
  intro n
  induction n with
  | zero =>
    intro x0 x1 v T0 h
    cases h
  | succ n H_12 =>
    intro x0 x1 v T0 h
    rw [fX10_findHeights_12] at h
    refine g_iload_n C (f := 1) dX10_findHeights_12 1 rfl ?_
    refine g_if_lt C 108 dX10_findHeights_13 rfl (fun c3 => ?_) (fun c3 => ?_)
    · replace h := if_t h c3
      cases h
      exact g_vret C dX10_findHeights_108 hr hlk
    · replace h := if_f h c3
      refine g_iload_n C (f := 1) dX10_findHeights_16 1 rfl ?_
      refine g_iconst C (n := 1) dX10_findHeights_17 (by decide) ?_
      refine g_iadd C dX10_findHeights_18 ?_
      obtain ⟨y4, ey4, h⟩ := lt_e h
      refine g_set C ey4 ?_
      refine g_istore_n C (f := 2) (ls' := [(2, (0, y4)), (0, (2, x0)), (1, (0, x1))]) dX10_findHeights_19 (by decide) rfl ?_
      refine g_sub [1, 2, 0] rfl rfl ?_
      exact tX10_findHeights_20 C hr hlk hC _ H_12 _ _ _ _ _ T0 h
end
theorem cX10_findHeights_ok (l : Launch) {E : En_} {sz : Int} (hC : Cl_ E.2.2.2.2.2 sz) {x0 : Int} {v : V_} {out : Int × V_} (T0 : (E.2.2.2.2.2 x0 ∧ ty_ x0 = 10 ∧ ln_ x0 = 0)) (h : fX10_findHeights x0 v = some out) : Met l yX10_findHeights [.code yX10_findHeights cX10_findHeights 3 (none : Option FieldType)] (rm_ 1 22) (Pc_ E sz v [(2, x0)]) (Qc_ E sz 9 out.1 out.2) 0 0 (fun q => E.1 < q) := by
  refine met_G0 RX10 (by decide +kernel) rfl (Nat.le_of_ble_eq_true rfl) ?_
  intro p e s m args below meth c C hr hlk
  rw [fX10_findHeights] at h
  refine g_aload_n C (f := 0) dX10_findHeights_0 0 rfl ?_
  refine g_iconst C (n := 0) dX10_findHeights_1 (by decide) ?_
  obtain ⟨v1, ev1, h⟩ := lt_e h
  refine g_putf C (k := 7) (kd := 0) okX10 (by decide) kf_RX10_178 dX10_findHeights_2 (rg_ hC T0.1) T0.2.1 rfl rfl nvI (Or.inl rfl) v1 ev1 ?_
  refine g_aload_n C (f := 0) dX10_findHeights_5 0 rfl ?_
  refine g_getf C (k := 3) (kd := 0) okX10 (by decide) kf_RX10_38 dX10_findHeights_6 (rg_ hC T0.1) T0.2.1 rfl ?_
  refine g_iconst C (n := 1) dX10_findHeights_9 (by decide) ?_
  refine g_isub C dX10_findHeights_10 ?_
  obtain ⟨y2, ey2, h⟩ := lt_e h
  refine g_set C ey2 ?_
  refine g_istore_n C (f := 1) (ls' := [(1, (0, y2)), (0, (2, x0))]) dX10_findHeights_11 (by decide) rfl ?_
  refine g_sub [1, 0] rfl rfl ?_
  exact tX10_findHeights_12 C hr hlk hC _ _ _ _ T0 h
theorem dX10_waitsForSplit_0 : decode cX10_waitsForSplit 0 = .ok (.aload_n 1, 1) := by decide +kernel
theorem dX10_waitsForSplit_1 : decode cX10_waitsForSplit 1 = .ok (.getfield 83, 3) := by decide +kernel
theorem dX10_waitsForSplit_4 : decode cX10_waitsForSplit 4 = .ok (.getfield 78, 3) := by decide +kernel
theorem dX10_waitsForSplit_7 : decode cX10_waitsForSplit 7 = .ok (.istore_n 3, 1) := by decide +kernel
theorem dX10_waitsForSplit_8 : decode cX10_waitsForSplit 8 = .ok (.iload_n 3, 1) := by decide +kernel
theorem dX10_waitsForSplit_9 : decode cX10_waitsForSplit 9 = .ok (.ifCond .lt 30, 3) := by decide +kernel
theorem dX10_waitsForSplit_12 : decode cX10_waitsForSplit 12 = .ok (.iload_n 3, 1) := by decide +kernel
theorem dX10_waitsForSplit_13 : decode cX10_waitsForSplit 13 = .ok (.bipush 6, 2) := by decide +kernel
theorem dX10_waitsForSplit_15 : decode cX10_waitsForSplit 15 = .ok (.if_icmp .ge 24, 3) := by decide +kernel
theorem dX10_waitsForSplit_18 : decode cX10_waitsForSplit 18 = .ok (.aload_n 2, 1) := by decide +kernel
theorem dX10_waitsForSplit_19 : decode cX10_waitsForSplit 19 = .ok (.getfield 117, 3) := by decide +kernel
theorem dX10_waitsForSplit_22 : decode cX10_waitsForSplit 22 = .ok (.aload_n 0, 1) := by decide +kernel
theorem dX10_waitsForSplit_23 : decode cX10_waitsForSplit 23 = .ok (.getfield 114, 3) := by decide +kernel
theorem dX10_waitsForSplit_26 : decode cX10_waitsForSplit 26 = .ok (.iaload, 1) := by decide +kernel
theorem dX10_waitsForSplit_27 : decode cX10_waitsForSplit 27 = .ok (.iload_n 3, 1) := by decide +kernel
theorem dX10_waitsForSplit_28 : decode cX10_waitsForSplit 28 = .ok (.ishr, 1) := by decide +kernel
theorem dX10_waitsForSplit_29 : decode cX10_waitsForSplit 29 = .ok (.iconst 1, 1) := by decide +kernel
theorem dX10_waitsForSplit_30 : decode cX10_waitsForSplit 30 = .ok (.iand, 1) := by decide +kernel
theorem dX10_waitsForSplit_31 : decode cX10_waitsForSplit 31 = .ok (.iconst 1, 1) := by decide +kernel
theorem dX10_waitsForSplit_32 : decode cX10_waitsForSplit 32 = .ok (.if_icmp .ne 7, 3) := by decide +kernel
theorem dX10_waitsForSplit_35 : decode cX10_waitsForSplit 35 = .ok (.iconst 1, 1) := by decide +kernel
theorem dX10_waitsForSplit_36 : decode cX10_waitsForSplit 36 = .ok (.goto 4, 3) := by decide +kernel
theorem dX10_waitsForSplit_39 : decode cX10_waitsForSplit 39 = .ok (.iconst 0, 1) := by decide +kernel
theorem dX10_waitsForSplit_40 : decode cX10_waitsForSplit 40 = .ok (.istore 4, 2) := by decide +kernel
theorem dX10_waitsForSplit_42 : decode cX10_waitsForSplit 42 = .ok (.aload_n 1, 1) := by decide +kernel
theorem dX10_waitsForSplit_43 : decode cX10_waitsForSplit 43 = .ok (.invokevirtual 162, 3) := by decide +kernel
theorem dX10_waitsForSplit_46 : decode cX10_waitsForSplit 46 = .ok (.ifCond .ne 24, 3) := by decide +kernel
theorem dX10_waitsForSplit_49 : decode cX10_waitsForSplit 49 = .ok (.aload_n 1, 1) := by decide +kernel
theorem dX10_waitsForSplit_50 : decode cX10_waitsForSplit 50 = .ok (.getfield 141, 3) := by decide +kernel
theorem dX10_waitsForSplit_53 : decode cX10_waitsForSplit 53 = .ok (.iconst 3, 1) := by decide +kernel
theorem dX10_waitsForSplit_54 : decode cX10_waitsForSplit 54 = .ok (.if_icmp .eq 16, 3) := by decide +kernel
theorem dX10_waitsForSplit_57 : decode cX10_waitsForSplit 57 = .ok (.aload_n 1, 1) := by decide +kernel
theorem dX10_waitsForSplit_58 : decode cX10_waitsForSplit 58 = .ok (.iconst 5, 1) := by decide +kernel
theorem dX10_waitsForSplit_59 : decode cX10_waitsForSplit 59 = .ok (.invokevirtual 159, 3) := by decide +kernel
theorem dX10_waitsForSplit_62 : decode cX10_waitsForSplit 62 = .ok (.ifCond .ne 8, 3) := by decide +kernel
theorem dX10_waitsForSplit_65 : decode cX10_waitsForSplit 65 = .ok (.iload 4, 2) := by decide +kernel
theorem dX10_waitsForSplit_67 : decode cX10_waitsForSplit 67 = .ok (.ifCond .eq 7, 3) := by decide +kernel
theorem dX10_waitsForSplit_70 : decode cX10_waitsForSplit 70 = .ok (.iconst 1, 1) := by decide +kernel
theorem dX10_waitsForSplit_71 : decode cX10_waitsForSplit 71 = .ok (.goto 4, 3) := by decide +kernel
theorem dX10_waitsForSplit_74 : decode cX10_waitsForSplit 74 = .ok (.iconst 0, 1) := by decide +kernel
theorem dX10_waitsForSplit_75 : decode cX10_waitsForSplit 75 = .ok (.ireturn, 1) := by decide +kernel
def fX10_waitsForSplit_40 (x1 s0 : Int) (v : V_) : Option (Int × V_) :=
  bd_ (fX1_isSplit x1 v) fun q4 =>
  if q4.1 = 0 then (
    if (q4.2 x1 1) = 3 then (
      some (1, q4.2))
    else (
      bd_ (fX1_does x1 5 q4.2) fun q7 =>
      if q7.1 = 0 then (
        if s0 = 0 then (
          some (0, q7.2))
        else (
          some (1, q7.2)))
      else (
        some (1, q7.2))))
  else (
    some (1, q4.2))
def fX10_waitsForSplit_39 (x1 : Int) (v : V_) : Option (Int × V_) :=
  fX10_waitsForSplit_40 x1 0 v
def fX10_waitsForSplit (x0 x1 x2 : Int) (v : V_) : Option (Int × V_) :=
  lt_ (v (x1 + 1) 1) fun y2 =>
  if y2 < 0 then (
    fX10_waitsForSplit_39 x1 v)
  else (
    if 6 ≤ y2 then (
      fX10_waitsForSplit_39 x1 v)
    else (
      ck_ (0 ≤ v x0 5 ∧ v x0 5 < 8) (
      if (bA_ (sR_ (v (x2 + 5) (v x0 5)) y2) 1) = 1 then (
        fX10_waitsForSplit_40 x1 1 v)
      else (
        fX10_waitsForSplit_39 x1 v))))
section
variable {E : En_} {p : Program} {l : Launch} {e : Env} {s : State} {m : MethodId} {args : Array Value} {below : List Frame} {meth : Method} {c : Code} {sz : Int}
theorem tX10_waitsForSplit_40 (C : MC_ E p s m c cX10_waitsForSplit 5 RX10) (hr : meth.sig.returnType = (some FieldType.boolean)) (hlk : meth.locks = false) (hC : Cl_ E.2.2.2.2.2 sz) {out : Int × V_} (x1 s0 : Int) (v : V_) (T1 : (E.2.2.2.2.2 x1 ∧ ty_ x1 = 1 ∧ ln_ x1 = 0)) (h : fX10_waitsForSplit_40 x1 s0 v = some out) : G_ E p l e (rm_ 1 21) s m args below meth c 5 sz (Q_ E below args s sz sz 0 out.1 out.2) 40 [(1, (2, x1))] [(0, s0)] v sz := by
  rw [fX10_waitsForSplit_40] at h
  refine g_istore C (i := 4) (ls' := [(4, (0, s0)), (1, (2, x1))]) dX10_waitsForSplit_40 (by decide) rfl ?_
  refine g_aload_n C (f := 1) dX10_waitsForSplit_42 1 rfl ?_
  obtain ⟨q4, eq4, h⟩ := bd_e h
  refine g_cV C [] (cX1_isSplit_ok l hC T1 eq4) okX1 T1.2.1 (rg_ hC T1.1) km_RX10_162 cv_X1_isSplit rfl (by decide) rfl rfl (Nat.le_of_ble_eq_true rfl) dX10_waitsForSplit_43 ?_
  refine g_if_ne C 70 dX10_waitsForSplit_46 rfl (fun c5 => ?_) (fun c5 => ?_)
  · replace h := if_f h c5
    refine g_iconst C (n := 1) dX10_waitsForSplit_70 (by decide) ?_
    refine g_goto C 75 dX10_waitsForSplit_71 rfl ?_
    cases h
    exact g_zret C dX10_waitsForSplit_75 hr hlk (Or.inr rfl)
  · replace h := if_t h c5
    refine g_aload_n C (f := 1) dX10_waitsForSplit_49 1 rfl ?_
    refine g_getf C (k := 1) (kd := 0) okX1 (by decide) kf_RX10_141 dX10_waitsForSplit_50 (rg_ hC T1.1) T1.2.1 rfl ?_
    refine g_iconst C (n := 3) dX10_waitsForSplit_53 (by decide) ?_
    refine g_icmp_eq C 70 dX10_waitsForSplit_54 rfl (fun c6 => ?_) (fun c6 => ?_)
    · replace h := if_t h c6
      refine g_iconst C (n := 1) dX10_waitsForSplit_70 (by decide) ?_
      refine g_goto C 75 dX10_waitsForSplit_71 rfl ?_
      cases h
      exact g_zret C dX10_waitsForSplit_75 hr hlk (Or.inr rfl)
    · replace h := if_f h c6
      refine g_aload_n C (f := 1) dX10_waitsForSplit_57 1 rfl ?_
      refine g_iconst C (n := 5) dX10_waitsForSplit_58 (by decide) ?_
      obtain ⟨q7, eq7, h⟩ := bd_e h
      refine g_cV C [(0, 5)] (cX1_does_ok l hC T1 eq7) okX1 T1.2.1 (rg_ hC T1.1) km_RX10_159 cv_X1_does rfl (by decide) rfl rfl (Nat.le_of_ble_eq_true rfl) dX10_waitsForSplit_59 ?_
      refine g_if_ne C 70 dX10_waitsForSplit_62 rfl (fun c8 => ?_) (fun c8 => ?_)
      · replace h := if_f h c8
        refine g_iconst C (n := 1) dX10_waitsForSplit_70 (by decide) ?_
        refine g_goto C 75 dX10_waitsForSplit_71 rfl ?_
        cases h
        exact g_zret C dX10_waitsForSplit_75 hr hlk (Or.inr rfl)
      · replace h := if_t h c8
        refine g_iload C (i := 4) dX10_waitsForSplit_65 0 rfl ?_
        refine g_if_eq C 74 dX10_waitsForSplit_67 rfl (fun c9 => ?_) (fun c9 => ?_)
        · replace h := if_t h c9
          refine g_iconst C (n := 0) dX10_waitsForSplit_74 (by decide) ?_
          cases h
          exact g_zret C dX10_waitsForSplit_75 hr hlk (Or.inl rfl)
        · replace h := if_f h c9
          refine g_iconst C (n := 1) dX10_waitsForSplit_70 (by decide) ?_
          refine g_goto C 75 dX10_waitsForSplit_71 rfl ?_
          cases h
          exact g_zret C dX10_waitsForSplit_75 hr hlk (Or.inr rfl)
theorem tX10_waitsForSplit_39 (C : MC_ E p s m c cX10_waitsForSplit 5 RX10) (hr : meth.sig.returnType = (some FieldType.boolean)) (hlk : meth.locks = false) (hC : Cl_ E.2.2.2.2.2 sz) {out : Int × V_} (x1 : Int) (v : V_) (T1 : (E.2.2.2.2.2 x1 ∧ ty_ x1 = 1 ∧ ln_ x1 = 0)) (h : fX10_waitsForSplit_39 x1 v = some out) : G_ E p l e (rm_ 1 21) s m args below meth c 5 sz (Q_ E below args s sz sz 0 out.1 out.2) 39 [(1, (2, x1))] [] v sz := by
  rw [fX10_waitsForSplit_39] at h
  refine g_iconst C (n := 0) dX10_waitsForSplit_39 (by decide) ?_
  refine g_sub [0] rfl rfl ?_
  exact tX10_waitsForSplit_40 C hr hlk hC _ _ _ T1 h
end
theorem cX10_waitsForSplit_ok (l : Launch) {E : En_} {sz : Int} (hC : Cl_ E.2.2.2.2.2 sz) {x0 x1 x2 : Int} {v : V_} {out : Int × V_} (T0 : (E.2.2.2.2.2 x0 ∧ ty_ x0 = 1 ∧ ln_ x0 = 0)) (T1 : (E.2.2.2.2.2 x1 ∧ ty_ x1 = 1 ∧ ln_ x1 = 0)) (T2 : (E.2.2.2.2.2 x2 ∧ ty_ x2 = 5 ∧ ln_ x2 = 0)) (h : fX10_waitsForSplit x0 x1 x2 v = some out) : Met l yX10_waitsForSplit [.code yX10_waitsForSplit cX10_waitsForSplit 5 (some FieldType.boolean)] (rm_ 1 21) (Pc_ E sz v [(2, x0), (2, x1), (2, x2)]) (Qc_ E sz 0 out.1 out.2) 0 0 (fun q => E.1 < q) := by
  refine met_G0 RX10 (by decide +kernel) rfl (Nat.le_of_ble_eq_true rfl) ?_
  intro p e s m args below meth c C hr hlk
  rw [fX10_waitsForSplit] at h
  refine g_aload_n C (f := 1) dX10_waitsForSplit_0 1 rfl ?_
  have F1 := fX1_0 hC T1.1 T1.2.1
  refine g_getR C (k := 0) (o := 1) okX1 (by decide) kf_RX10_83 dX10_waitsForSplit_1 hC T1.1 T1.2.1 rfl rfl ?_
  refine g_getf C (k := 1) (kd := 0) okX8 (by decide) kf_RX10_78 dX10_waitsForSplit_4 (rg_ hC F1.1) F1.2.1 rfl ?_
  obtain ⟨y2, ey2, h⟩ := lt_e h
  refine g_set C ey2 ?_
  refine g_istore_n C (f := 3) (ls' := [(3, (0, y2)), (0, (2, x0)), (1, (2, x1)), (2, (2, x2))]) dX10_waitsForSplit_7 (by decide) rfl ?_
  refine g_iload_n C (f := 3) dX10_waitsForSplit_8 0 rfl ?_
  refine g_if_lt C 39 dX10_waitsForSplit_9 rfl (fun c3 => ?_) (fun c3 => ?_)
  · replace h := if_t h c3
    refine g_sub [2] rfl rfl ?_
    exact tX10_waitsForSplit_39 C hr hlk hC _ _ T1 h
  · replace h := if_f h c3
    refine g_iload_n C (f := 3) dX10_waitsForSplit_12 0 rfl ?_
    refine g_bipush C (n := 6) dX10_waitsForSplit_13 (by decide) ?_
    refine g_icmp_ge C 39 dX10_waitsForSplit_15 rfl (fun c10 => ?_) (fun c10 => ?_)
    · replace h := if_t h c10
      refine g_sub [2] rfl rfl ?_
      exact tX10_waitsForSplit_39 C hr hlk hC _ _ T1 h
    · replace h := if_f h c10
      refine g_aload_n C (f := 2) dX10_waitsForSplit_18 3 rfl ?_
      have F11 := fX5_5 hC T2.1 T2.2.1
      refine g_getR C (k := 5) (o := 5) okX5 (by decide) kf_RX10_117 dX10_waitsForSplit_19 hC T2.1 T2.2.1 rfl rfl ?_
      refine g_aload_n C (f := 0) dX10_waitsForSplit_22 1 rfl ?_
      refine g_getf C (k := 5) (kd := 0) okX1 (by decide) kf_RX10_114 dX10_waitsForSplit_23 (rg_ hC T0.1) T0.2.1 rfl ?_
      obtain ⟨c12, h⟩ := ck_e h
      refine g_iald C 8 dX10_waitsForSplit_26 (rg_ hC F11.1) F11.2.1 F11.2.2 c12 ?_
      refine g_iload_n C (f := 3) dX10_waitsForSplit_27 0 rfl ?_
      refine g_ishr C dX10_waitsForSplit_28 ?_
      refine g_iconst C (n := 1) dX10_waitsForSplit_29 (by decide) ?_
      refine g_iand C dX10_waitsForSplit_30 ?_
      refine g_iconst C (n := 1) dX10_waitsForSplit_31 (by decide) ?_
      refine g_icmp_ne C 39 dX10_waitsForSplit_32 rfl (fun c13 => ?_) (fun c13 => ?_)
      · replace h := if_f h c13
        refine g_sub [2] rfl rfl ?_
        exact tX10_waitsForSplit_39 C hr hlk hC _ _ T1 h
      · replace h := if_t h c13
        refine g_iconst C (n := 1) dX10_waitsForSplit_35 (by decide) ?_
        refine g_goto C 40 dX10_waitsForSplit_36 rfl ?_
        refine g_sub [2] rfl rfl ?_
        exact tX10_waitsForSplit_40 C hr hlk hC _ _ _ T1 h
theorem dX8_looksAt_0 : decode cX8_looksAt 0 = .ok (.iload_n 1, 1) := by decide +kernel
theorem dX8_looksAt_1 : decode cX8_looksAt 1 = .ok (.ifCond .lt 27, 3) := by decide +kernel
theorem dX8_looksAt_4 : decode cX8_looksAt 4 = .ok (.aload_n 0, 1) := by decide +kernel
theorem dX8_looksAt_5 : decode cX8_looksAt 5 = .ok (.getfield 18, 3) := by decide +kernel
theorem dX8_looksAt_8 : decode cX8_looksAt 8 = .ok (.iload_n 1, 1) := by decide +kernel
theorem dX8_looksAt_9 : decode cX8_looksAt 9 = .ok (.iconst (-1), 1) := by decide +kernel
theorem dX8_looksAt_10 : decode cX8_looksAt 10 = .ok (.ixor, 1) := by decide +kernel
theorem dX8_looksAt_11 : decode cX8_looksAt 11 = .ok (.if_icmp .eq 13, 3) := by decide +kernel
theorem dX8_looksAt_14 : decode cX8_looksAt 14 = .ok (.aload_n 0, 1) := by decide +kernel
theorem dX8_looksAt_15 : decode cX8_looksAt 15 = .ok (.getfield 21, 3) := by decide +kernel
theorem dX8_looksAt_18 : decode cX8_looksAt 18 = .ok (.iload_n 1, 1) := by decide +kernel
theorem dX8_looksAt_19 : decode cX8_looksAt 19 = .ok (.iconst (-1), 1) := by decide +kernel
theorem dX8_looksAt_20 : decode cX8_looksAt 20 = .ok (.ixor, 1) := by decide +kernel
theorem dX8_looksAt_21 : decode cX8_looksAt 21 = .ok (.if_icmp .ne 7, 3) := by decide +kernel
theorem dX8_looksAt_24 : decode cX8_looksAt 24 = .ok (.iconst 1, 1) := by decide +kernel
theorem dX8_looksAt_25 : decode cX8_looksAt 25 = .ok (.goto 4, 3) := by decide +kernel
theorem dX8_looksAt_28 : decode cX8_looksAt 28 = .ok (.iconst 0, 1) := by decide +kernel
theorem dX8_looksAt_29 : decode cX8_looksAt 29 = .ok (.ireturn, 1) := by decide +kernel
def fX8_looksAt (x0 x1 : Int) (v : V_) : Option (Int × V_) :=
  if x1 < 0 then (
    some (0, v))
  else (
    if (v x0 2) = (bX_ x1 (-1)) then (
      some (1, v))
    else (
      if (v x0 3) = (bX_ x1 (-1)) then (
        some (1, v))
      else (
        some (0, v))))
theorem cX8_looksAt_ok (l : Launch) {E : En_} {sz : Int} (hC : Cl_ E.2.2.2.2.2 sz) {x0 x1 : Int} {v : V_} {out : Int × V_} (T0 : (E.2.2.2.2.2 x0 ∧ ty_ x0 = 8 ∧ ln_ x0 = 0)) (h : fX8_looksAt x0 x1 v = some out) : Met l yX8_looksAt [.code yX8_looksAt cX8_looksAt 2 (some FieldType.boolean)] (rm_ 0 0) (Pc_ E sz v [(2, x0), (0, x1)]) (Qc_ E sz 0 out.1 out.2) 0 0 (fun q => E.1 < q) := by
  refine met_G0 RX8 (by decide +kernel) rfl (Nat.le_of_ble_eq_true rfl) ?_
  intro p e s m args below meth c C hr hlk
  rw [fX8_looksAt] at h
  refine g_iload_n C (f := 1) dX8_looksAt_0 1 rfl ?_
  refine g_if_lt C 28 dX8_looksAt_1 rfl (fun c1 => ?_) (fun c1 => ?_)
  · replace h := if_t h c1
    refine g_iconst C (n := 0) dX8_looksAt_28 (by decide) ?_
    cases h
    exact g_zret C dX8_looksAt_29 hr hlk (Or.inl rfl)
  · replace h := if_f h c1
    refine g_aload_n C (f := 0) dX8_looksAt_4 0 rfl ?_
    refine g_getf C (k := 2) (kd := 0) okX8 (by decide) kf_RX8_18 dX8_looksAt_5 (rg_ hC T0.1) T0.2.1 rfl ?_
    refine g_iload_n C (f := 1) dX8_looksAt_8 1 rfl ?_
    refine g_iconst C (n := (-1)) dX8_looksAt_9 (by decide) ?_
    refine g_ixor C dX8_looksAt_10 ?_
    refine g_icmp_eq C 24 dX8_looksAt_11 rfl (fun c2 => ?_) (fun c2 => ?_)
    · replace h := if_t h c2
      refine g_iconst C (n := 1) dX8_looksAt_24 (by decide) ?_
      refine g_goto C 29 dX8_looksAt_25 rfl ?_
      cases h
      exact g_zret C dX8_looksAt_29 hr hlk (Or.inr rfl)
    · replace h := if_f h c2
      refine g_aload_n C (f := 0) dX8_looksAt_14 0 rfl ?_
      refine g_getf C (k := 3) (kd := 0) okX8 (by decide) kf_RX8_21 dX8_looksAt_15 (rg_ hC T0.1) T0.2.1 rfl ?_
      refine g_iload_n C (f := 1) dX8_looksAt_18 1 rfl ?_
      refine g_iconst C (n := (-1)) dX8_looksAt_19 (by decide) ?_
      refine g_ixor C dX8_looksAt_20 ?_
      refine g_icmp_ne C 28 dX8_looksAt_21 rfl (fun c3 => ?_) (fun c3 => ?_)
      · replace h := if_f h c3
        refine g_iconst C (n := 0) dX8_looksAt_28 (by decide) ?_
        cases h
        exact g_zret C dX8_looksAt_29 hr hlk (Or.inl rfl)
      · replace h := if_t h c3
        refine g_iconst C (n := 1) dX8_looksAt_24 (by decide) ?_
        refine g_goto C 29 dX8_looksAt_25 rfl ?_
        cases h
        exact g_zret C dX8_looksAt_29 hr hlk (Or.inr rfl)
theorem dX10_needOfOrder_0 : decode cX10_needOfOrder 0 = .ok (.aload_n 1, 1) := by decide +kernel
theorem dX10_needOfOrder_1 : decode cX10_needOfOrder 1 = .ok (.getfield 83, 3) := by decide +kernel
theorem dX10_needOfOrder_4 : decode cX10_needOfOrder 4 = .ok (.getfield 78, 3) := by decide +kernel
theorem dX10_needOfOrder_7 : decode cX10_needOfOrder 7 = .ok (.istore_n 3, 1) := by decide +kernel
theorem dX10_needOfOrder_8 : decode cX10_needOfOrder 8 = .ok (.bipush (-2), 2) := by decide +kernel
theorem dX10_needOfOrder_10 : decode cX10_needOfOrder 10 = .ok (.istore 4, 2) := by decide +kernel
theorem dX10_needOfOrder_12 : decode cX10_needOfOrder 12 = .ok (.aload_n 1, 1) := by decide +kernel
theorem dX10_needOfOrder_13 : decode cX10_needOfOrder 13 = .ok (.getfield 141, 3) := by decide +kernel
theorem dX10_needOfOrder_16 : decode cX10_needOfOrder 16 = .ok (.iconst 3, 1) := by decide +kernel
theorem dX10_needOfOrder_17 : decode cX10_needOfOrder 17 = .ok (.if_icmp .eq 30, 3) := by decide +kernel
theorem dX10_needOfOrder_20 : decode cX10_needOfOrder 20 = .ok (.aload_n 0, 1) := by decide +kernel
theorem dX10_needOfOrder_21 : decode cX10_needOfOrder 21 = .ok (.getfield 83, 3) := by decide +kernel
theorem dX10_needOfOrder_24 : decode cX10_needOfOrder 24 = .ok (.iload_n 3, 1) := by decide +kernel
theorem dX10_needOfOrder_25 : decode cX10_needOfOrder 25 = .ok (.invokevirtual 155, 3) := by decide +kernel
theorem dX10_needOfOrder_28 : decode cX10_needOfOrder 28 = .ok (.ifCond .ne 19, 3) := by decide +kernel
theorem dX10_needOfOrder_31 : decode cX10_needOfOrder 31 = .ok (.aload_n 0, 1) := by decide +kernel
theorem dX10_needOfOrder_32 : decode cX10_needOfOrder 32 = .ok (.iconst 4, 1) := by decide +kernel
theorem dX10_needOfOrder_33 : decode cX10_needOfOrder 33 = .ok (.invokevirtual 159, 3) := by decide +kernel
theorem dX10_needOfOrder_36 : decode cX10_needOfOrder 36 = .ok (.ifCond .eq 14, 3) := by decide +kernel
theorem dX10_needOfOrder_39 : decode cX10_needOfOrder 39 = .ok (.aload_n 1, 1) := by decide +kernel
theorem dX10_needOfOrder_40 : decode cX10_needOfOrder 40 = .ok (.iconst 5, 1) := by decide +kernel
theorem dX10_needOfOrder_41 : decode cX10_needOfOrder 41 = .ok (.invokevirtual 159, 3) := by decide +kernel
theorem dX10_needOfOrder_44 : decode cX10_needOfOrder 44 = .ok (.ifCond .eq 6, 3) := by decide +kernel
theorem dX10_needOfOrder_47 : decode cX10_needOfOrder 47 = .ok (.iconst 0, 1) := by decide +kernel
theorem dX10_needOfOrder_48 : decode cX10_needOfOrder 48 = .ok (.istore 4, 2) := by decide +kernel
theorem dX10_needOfOrder_50 : decode cX10_needOfOrder 50 = .ok (.aload_n 0, 1) := by decide +kernel
theorem dX10_needOfOrder_51 : decode cX10_needOfOrder 51 = .ok (.iconst 5, 1) := by decide +kernel
theorem dX10_needOfOrder_52 : decode cX10_needOfOrder 52 = .ok (.invokevirtual 159, 3) := by decide +kernel
theorem dX10_needOfOrder_55 : decode cX10_needOfOrder 55 = .ok (.ifCond .eq 11, 3) := by decide +kernel
theorem dX10_needOfOrder_58 : decode cX10_needOfOrder 58 = .ok (.aload_n 1, 1) := by decide +kernel
theorem dX10_needOfOrder_59 : decode cX10_needOfOrder 59 = .ok (.iconst 5, 1) := by decide +kernel
theorem dX10_needOfOrder_60 : decode cX10_needOfOrder 60 = .ok (.invokevirtual 159, 3) := by decide +kernel
theorem dX10_needOfOrder_63 : decode cX10_needOfOrder 63 = .ok (.ifCond .ne 19, 3) := by decide +kernel
theorem dX10_needOfOrder_66 : decode cX10_needOfOrder 66 = .ok (.aload_n 0, 1) := by decide +kernel
theorem dX10_needOfOrder_67 : decode cX10_needOfOrder 67 = .ok (.invokevirtual 162, 3) := by decide +kernel
theorem dX10_needOfOrder_70 : decode cX10_needOfOrder 70 = .ok (.ifCond .eq 15, 3) := by decide +kernel
theorem dX10_needOfOrder_73 : decode cX10_needOfOrder 73 = .ok (.aload_n 0, 1) := by decide +kernel
theorem dX10_needOfOrder_74 : decode cX10_needOfOrder 74 = .ok (.aload_n 1, 1) := by decide +kernel
theorem dX10_needOfOrder_75 : decode cX10_needOfOrder 75 = .ok (.aload_n 2, 1) := by decide +kernel
theorem dX10_needOfOrder_76 : decode cX10_needOfOrder 76 = .ok (.invokestatic 166, 3) := by decide +kernel
theorem dX10_needOfOrder_79 : decode cX10_needOfOrder 79 = .ok (.ifCond .eq 6, 3) := by decide +kernel
theorem dX10_needOfOrder_82 : decode cX10_needOfOrder 82 = .ok (.iconst 1, 1) := by decide +kernel
theorem dX10_needOfOrder_83 : decode cX10_needOfOrder 83 = .ok (.istore 4, 2) := by decide +kernel
theorem dX10_needOfOrder_85 : decode cX10_needOfOrder 85 = .ok (.aload_n 0, 1) := by decide +kernel
theorem dX10_needOfOrder_86 : decode cX10_needOfOrder 86 = .ok (.iconst 5, 1) := by decide +kernel
theorem dX10_needOfOrder_87 : decode cX10_needOfOrder 87 = .ok (.invokevirtual 159, 3) := by decide +kernel
theorem dX10_needOfOrder_90 : decode cX10_needOfOrder 90 = .ok (.ifCond .eq 22, 3) := by decide +kernel
theorem dX10_needOfOrder_93 : decode cX10_needOfOrder 93 = .ok (.aload_n 1, 1) := by decide +kernel
theorem dX10_needOfOrder_94 : decode cX10_needOfOrder 94 = .ok (.iconst 4, 1) := by decide +kernel
theorem dX10_needOfOrder_95 : decode cX10_needOfOrder 95 = .ok (.invokevirtual 159, 3) := by decide +kernel
theorem dX10_needOfOrder_98 : decode cX10_needOfOrder 98 = .ok (.ifCond .eq 14, 3) := by decide +kernel
theorem dX10_needOfOrder_101 : decode cX10_needOfOrder 101 = .ok (.iload 4, 2) := by decide +kernel
theorem dX10_needOfOrder_103 : decode cX10_needOfOrder 103 = .ok (.aload_n 0, 1) := by decide +kernel
theorem dX10_needOfOrder_104 : decode cX10_needOfOrder 104 = .ok (.getfield 138, 3) := by decide +kernel
theorem dX10_needOfOrder_107 : decode cX10_needOfOrder 107 = .ok (.invokestatic 170, 3) := by decide +kernel
theorem dX10_needOfOrder_110 : decode cX10_needOfOrder 110 = .ok (.istore 4, 2) := by decide +kernel
theorem dX10_needOfOrder_112 : decode cX10_needOfOrder 112 = .ok (.iload_n 3, 1) := by decide +kernel
theorem dX10_needOfOrder_113 : decode cX10_needOfOrder 113 = .ok (.ifCond .lt 36, 3) := by decide +kernel
theorem dX10_needOfOrder_116 : decode cX10_needOfOrder 116 = .ok (.aload_n 0, 1) := by decide +kernel
theorem dX10_needOfOrder_117 : decode cX10_needOfOrder 117 = .ok (.getfield 83, 3) := by decide +kernel
theorem dX10_needOfOrder_120 : decode cX10_needOfOrder 120 = .ok (.getfield 78, 3) := by decide +kernel
theorem dX10_needOfOrder_123 : decode cX10_needOfOrder 123 = .ok (.iload_n 3, 1) := by decide +kernel
theorem dX10_needOfOrder_124 : decode cX10_needOfOrder 124 = .ok (.if_icmp .ne 25, 3) := by decide +kernel
theorem dX10_needOfOrder_127 : decode cX10_needOfOrder 127 = .ok (.iload 4, 2) := by decide +kernel
theorem dX10_needOfOrder_129 : decode cX10_needOfOrder 129 = .ok (.iconst 1, 1) := by decide +kernel
theorem dX10_needOfOrder_130 : decode cX10_needOfOrder 130 = .ok (.aload_n 0, 1) := by decide +kernel
theorem dX10_needOfOrder_131 : decode cX10_needOfOrder 131 = .ok (.getfield 138, 3) := by decide +kernel
theorem dX10_needOfOrder_134 : decode cX10_needOfOrder 134 = .ok (.aload_n 1, 1) := by decide +kernel
theorem dX10_needOfOrder_135 : decode cX10_needOfOrder 135 = .ok (.getfield 138, 3) := by decide +kernel
theorem dX10_needOfOrder_138 : decode cX10_needOfOrder 138 = .ok (.isub, 1) := by decide +kernel
theorem dX10_needOfOrder_139 : decode cX10_needOfOrder 139 = .ok (.iconst 1, 1) := by decide +kernel
theorem dX10_needOfOrder_140 : decode cX10_needOfOrder 140 = .ok (.iadd, 1) := by decide +kernel
theorem dX10_needOfOrder_141 : decode cX10_needOfOrder 141 = .ok (.invokestatic 170, 3) := by decide +kernel
theorem dX10_needOfOrder_144 : decode cX10_needOfOrder 144 = .ok (.invokestatic 170, 3) := by decide +kernel
theorem dX10_needOfOrder_147 : decode cX10_needOfOrder 147 = .ok (.istore 4, 2) := by decide +kernel
theorem dX10_needOfOrder_149 : decode cX10_needOfOrder 149 = .ok (.iload 4, 2) := by decide +kernel
theorem dX10_needOfOrder_151 : decode cX10_needOfOrder 151 = .ok (.ireturn, 1) := by decide +kernel
def fX10_needOfOrder_112 (x0 x1 x3 x4 : Int) (v : V_) : Option (Int × V_) :=
  if x3 < 0 then (
    some (x4, v))
  else (
    if (v (x0 + 1) 1) = x3 then (
      lt_ (mx_ x4 (mx_ 1 (wr_ ((wr_ ((v x0 3) - (v x1 3))) + 1)))) fun y13 =>
      some (y13, v))
    else (
      some (x4, v)))
def fX10_needOfOrder_85 (x0 x1 x3 x4 : Int) (v : V_) : Option (Int × V_) :=
  bd_ (fX1_does x0 5 v) fun q8 =>
  if q8.1 = 0 then (
    fX10_needOfOrder_112 x0 x1 x3 x4 q8.2)
  else (
    bd_ (fX1_does x1 4 q8.2) fun q14 =>
    if q14.1 = 0 then (
      fX10_needOfOrder_112 x0 x1 x3 x4 q14.2)
    else (
      lt_ (mx_ x4 (q14.2 x0 3)) fun y16 =>
      fX10_needOfOrder_112 x0 x1 x3 y16 q14.2))
def fX10_needOfOrder_82 (x0 x1 x3 : Int) (v : V_) : Option (Int × V_) :=
  fX10_needOfOrder_85 x0 x1 x3 1 v
def fX10_needOfOrder_66 (x0 x1 x2 x3 x4 : Int) (v : V_) : Option (Int × V_) :=
  bd_ (fX1_isSplit x0 v) fun q6 =>
  if q6.1 = 0 then (
    fX10_needOfOrder_85 x0 x1 x3 x4 q6.2)
  else (
    bd_ (fX10_waitsForSplit x0 x1 x2 q6.2) fun q17 =>
    if q17.1 = 0 then (
      fX10_needOfOrder_85 x0 x1 x3 x4 q17.2)
    else (
      fX10_needOfOrder_82 x0 x1 x3 q17.2))
def fX10_needOfOrder_50 (x0 x1 x2 x3 x4 : Int) (v : V_) : Option (Int × V_) :=
  bd_ (fX1_does x0 5 v) fun q4 =>
  if q4.1 = 0 then (
    fX10_needOfOrder_66 x0 x1 x2 x3 x4 q4.2)
  else (
    bd_ (fX1_does x1 5 q4.2) fun q19 =>
    if q19.1 = 0 then (
      fX10_needOfOrder_66 x0 x1 x2 x3 x4 q19.2)
    else (
      fX10_needOfOrder_82 x0 x1 x3 q19.2))
def fX10_needOfOrder_47 (x0 x1 x2 x3 : Int) (v : V_) : Option (Int × V_) :=
  fX10_needOfOrder_50 x0 x1 x2 x3 0 v
def fX10_needOfOrder (x0 x1 x2 : Int) (v : V_) : Option (Int × V_) :=
  lt_ (v (x1 + 1) 1) fun y2 =>
  if (v x1 1) = 3 then (
    fX10_needOfOrder_47 x0 x1 x2 y2 v)
  else (
    bd_ (fX8_looksAt (x0 + 1) y2 v) fun q22 =>
    if q22.1 = 0 then (
      bd_ (fX1_does x0 4 q22.2) fun q24 =>
      if q24.1 = 0 then (
        fX10_needOfOrder_50 x0 x1 x2 y2 (-2) q24.2)
      else (
        bd_ (fX1_does x1 5 q24.2) fun q26 =>
        if q26.1 = 0 then (
          fX10_needOfOrder_50 x0 x1 x2 y2 (-2) q26.2)
        else (
          fX10_needOfOrder_47 x0 x1 x2 y2 q26.2)))
    else (
      fX10_needOfOrder_47 x0 x1 x2 y2 q22.2))
section
variable {E : En_} {p : Program} {l : Launch} {e : Env} {s : State} {m : MethodId} {args : Array Value} {below : List Frame} {meth : Method} {c : Code} {sz : Int}
theorem tX10_needOfOrder_112 (C : MC_ E p s m c cX10_needOfOrder 5 RX10) (hr : meth.sig.returnType = (some FieldType.int)) (hlk : meth.locks = false) (hC : Cl_ E.2.2.2.2.2 sz) {out : Int × V_} (x0 x1 x3 x4 : Int) (v : V_) (T0 : (E.2.2.2.2.2 x0 ∧ ty_ x0 = 1 ∧ ln_ x0 = 0)) (T1 : (E.2.2.2.2.2 x1 ∧ ty_ x1 = 1 ∧ ln_ x1 = 0)) (h : fX10_needOfOrder_112 x0 x1 x3 x4 v = some out) : G_ E p l e (rm_ 2 45) s m args below meth c 5 sz (Q_ E below args s sz sz 0 out.1 out.2) 112 [(0, (2, x0)), (1, (2, x1)), (3, (0, x3)), (4, (0, x4))] [] v sz := by
  rw [fX10_needOfOrder_112] at h
  refine g_iload_n C (f := 3) dX10_needOfOrder_112 2 rfl ?_
  refine g_if_lt C 149 dX10_needOfOrder_113 rfl (fun c10 => ?_) (fun c10 => ?_)
  · replace h := if_t h c10
    refine g_iload C (i := 4) dX10_needOfOrder_149 3 rfl ?_
    cases h
    exact g_iret C dX10_needOfOrder_151 hr hlk
  · replace h := if_f h c10
    refine g_aload_n C (f := 0) dX10_needOfOrder_116 0 rfl ?_
    have F11 := fX1_0 hC T0.1 T0.2.1
    refine g_getR C (k := 0) (o := 1) okX1 (by decide) kf_RX10_83 dX10_needOfOrder_117 hC T0.1 T0.2.1 rfl rfl ?_
    refine g_getf C (k := 1) (kd := 0) okX8 (by decide) kf_RX10_78 dX10_needOfOrder_120 (rg_ hC F11.1) F11.2.1 rfl ?_
    refine g_iload_n C (f := 3) dX10_needOfOrder_123 2 rfl ?_
    refine g_icmp_ne C 149 dX10_needOfOrder_124 rfl (fun c12 => ?_) (fun c12 => ?_)
    · replace h := if_f h c12
      refine g_iload C (i := 4) dX10_needOfOrder_149 3 rfl ?_
      cases h
      exact g_iret C dX10_needOfOrder_151 hr hlk
    · replace h := if_t h c12
      refine g_iload C (i := 4) dX10_needOfOrder_127 3 rfl ?_
      refine g_iconst C (n := 1) dX10_needOfOrder_129 (by decide) ?_
      refine g_aload_n C (f := 0) dX10_needOfOrder_130 0 rfl ?_
      refine g_getf C (k := 3) (kd := 0) okX1 (by decide) kf_RX10_138 dX10_needOfOrder_131 (rg_ hC T0.1) T0.2.1 rfl ?_
      refine g_aload_n C (f := 1) dX10_needOfOrder_134 1 rfl ?_
      refine g_getf C (k := 3) (kd := 0) okX1 (by decide) kf_RX10_138 dX10_needOfOrder_135 (rg_ hC T1.1) T1.2.1 rfl ?_
      refine g_isub C dX10_needOfOrder_138 ?_
      refine g_iconst C (n := 1) dX10_needOfOrder_139 (by decide) ?_
      refine g_iadd C dX10_needOfOrder_140 ?_
      refine g_max0 C km_RX10_170 dX10_needOfOrder_141 ⟨Nat.le_of_ble_eq_true rfl, Nat.le_of_ble_eq_true rfl⟩ ?_
      refine g_max0 C km_RX10_170 dX10_needOfOrder_144 ⟨Nat.le_of_ble_eq_true rfl, Nat.le_of_ble_eq_true rfl⟩ ?_
      obtain ⟨y13, ey13, h⟩ := lt_e h
      refine g_set C ey13 ?_
      refine g_istore C (i := 4) (ls' := [(4, (0, y13)), (0, (2, x0)), (1, (2, x1)), (3, (0, x3))]) dX10_needOfOrder_147 (by decide) rfl ?_
      refine g_iload C (i := 4) dX10_needOfOrder_149 0 rfl ?_
      cases h
      exact g_iret C dX10_needOfOrder_151 hr hlk
theorem tX10_needOfOrder_85 (C : MC_ E p s m c cX10_needOfOrder 5 RX10) (hr : meth.sig.returnType = (some FieldType.int)) (hlk : meth.locks = false) (hC : Cl_ E.2.2.2.2.2 sz) {out : Int × V_} (x0 x1 x3 x4 : Int) (v : V_) (T0 : (E.2.2.2.2.2 x0 ∧ ty_ x0 = 1 ∧ ln_ x0 = 0)) (T1 : (E.2.2.2.2.2 x1 ∧ ty_ x1 = 1 ∧ ln_ x1 = 0)) (h : fX10_needOfOrder_85 x0 x1 x3 x4 v = some out) : G_ E p l e (rm_ 2 45) s m args below meth c 5 sz (Q_ E below args s sz sz 0 out.1 out.2) 85 [(0, (2, x0)), (1, (2, x1)), (3, (0, x3)), (4, (0, x4))] [] v sz := by
  rw [fX10_needOfOrder_85] at h
  refine g_aload_n C (f := 0) dX10_needOfOrder_85 0 rfl ?_
  refine g_iconst C (n := 5) dX10_needOfOrder_86 (by decide) ?_
  obtain ⟨q8, eq8, h⟩ := bd_e h
  refine g_cV C [(0, 5)] (cX1_does_ok l hC T0 eq8) okX1 T0.2.1 (rg_ hC T0.1) km_RX10_159 cv_X1_does rfl (by decide) rfl rfl (Nat.le_of_ble_eq_true rfl) dX10_needOfOrder_87 ?_
  refine g_if_eq C 112 dX10_needOfOrder_90 rfl (fun c9 => ?_) (fun c9 => ?_)
  · replace h := if_t h c9
    refine g_sub [0, 1, 2, 3] rfl rfl ?_
    exact tX10_needOfOrder_112 C hr hlk hC _ _ _ _ _ T0 T1 h
  · replace h := if_f h c9
    refine g_aload_n C (f := 1) dX10_needOfOrder_93 1 rfl ?_
    refine g_iconst C (n := 4) dX10_needOfOrder_94 (by decide) ?_
    obtain ⟨q14, eq14, h⟩ := bd_e h
    refine g_cV C [(0, 4)] (cX1_does_ok l hC T1 eq14) okX1 T1.2.1 (rg_ hC T1.1) km_RX10_159 cv_X1_does rfl (by decide) rfl rfl (Nat.le_of_ble_eq_true rfl) dX10_needOfOrder_95 ?_
    refine g_if_eq C 112 dX10_needOfOrder_98 rfl (fun c15 => ?_) (fun c15 => ?_)
    · replace h := if_t h c15
      refine g_sub [0, 1, 2, 3] rfl rfl ?_
      exact tX10_needOfOrder_112 C hr hlk hC _ _ _ _ _ T0 T1 h
    · replace h := if_f h c15
      refine g_iload C (i := 4) dX10_needOfOrder_101 3 rfl ?_
      refine g_aload_n C (f := 0) dX10_needOfOrder_103 0 rfl ?_
      refine g_getf C (k := 3) (kd := 0) okX1 (by decide) kf_RX10_138 dX10_needOfOrder_104 (rg_ hC T0.1) T0.2.1 rfl ?_
      refine g_max0 C km_RX10_170 dX10_needOfOrder_107 ⟨Nat.le_of_ble_eq_true rfl, Nat.le_of_ble_eq_true rfl⟩ ?_
      obtain ⟨y16, ey16, h⟩ := lt_e h
      refine g_set C ey16 ?_
      refine g_istore C (i := 4) (ls' := [(4, (0, y16)), (0, (2, x0)), (1, (2, x1)), (3, (0, x3))]) dX10_needOfOrder_110 (by decide) rfl ?_
      refine g_sub [1, 2, 3, 0] rfl rfl ?_
      exact tX10_needOfOrder_112 C hr hlk hC _ _ _ _ _ T0 T1 h
theorem tX10_needOfOrder_82 (C : MC_ E p s m c cX10_needOfOrder 5 RX10) (hr : meth.sig.returnType = (some FieldType.int)) (hlk : meth.locks = false) (hC : Cl_ E.2.2.2.2.2 sz) {out : Int × V_} (x0 x1 x3 : Int) (v : V_) (T0 : (E.2.2.2.2.2 x0 ∧ ty_ x0 = 1 ∧ ln_ x0 = 0)) (T1 : (E.2.2.2.2.2 x1 ∧ ty_ x1 = 1 ∧ ln_ x1 = 0)) (h : fX10_needOfOrder_82 x0 x1 x3 v = some out) : G_ E p l e (rm_ 2 45) s m args below meth c 5 sz (Q_ E below args s sz sz 0 out.1 out.2) 82 [(0, (2, x0)), (1, (2, x1)), (3, (0, x3))] [] v sz := by
  rw [fX10_needOfOrder_82] at h
  refine g_iconst C (n := 1) dX10_needOfOrder_82 (by decide) ?_
  refine g_istore C (i := 4) (ls' := [(4, (0, 1)), (0, (2, x0)), (1, (2, x1)), (3, (0, x3))]) dX10_needOfOrder_83 (by decide) rfl ?_
  refine g_sub [1, 2, 3, 0] rfl rfl ?_
  exact tX10_needOfOrder_85 C hr hlk hC _ _ _ _ _ T0 T1 h
theorem tX10_needOfOrder_66 (C : MC_ E p s m c cX10_needOfOrder 5 RX10) (hr : meth.sig.returnType = (some FieldType.int)) (hlk : meth.locks = false) (hC : Cl_ E.2.2.2.2.2 sz) {out : Int × V_} (x0 x1 x2 x3 x4 : Int) (v : V_) (T0 : (E.2.2.2.2.2 x0 ∧ ty_ x0 = 1 ∧ ln_ x0 = 0)) (T1 : (E.2.2.2.2.2 x1 ∧ ty_ x1 = 1 ∧ ln_ x1 = 0)) (T2 : (E.2.2.2.2.2 x2 ∧ ty_ x2 = 5 ∧ ln_ x2 = 0)) (h : fX10_needOfOrder_66 x0 x1 x2 x3 x4 v = some out) : G_ E p l e (rm_ 2 45) s m args below meth c 5 sz (Q_ E below args s sz sz 0 out.1 out.2) 66 [(0, (2, x0)), (1, (2, x1)), (2, (2, x2)), (3, (0, x3)), (4, (0, x4))] [] v sz := by
  rw [fX10_needOfOrder_66] at h
  refine g_aload_n C (f := 0) dX10_needOfOrder_66 0 rfl ?_
  obtain ⟨q6, eq6, h⟩ := bd_e h
  refine g_cV C [] (cX1_isSplit_ok l hC T0 eq6) okX1 T0.2.1 (rg_ hC T0.1) km_RX10_162 cv_X1_isSplit rfl (by decide) rfl rfl (Nat.le_of_ble_eq_true rfl) dX10_needOfOrder_67 ?_
  refine g_if_eq C 85 dX10_needOfOrder_70 rfl (fun c7 => ?_) (fun c7 => ?_)
  · replace h := if_t h c7
    refine g_sub [0, 1, 3, 4] rfl rfl ?_
    exact tX10_needOfOrder_85 C hr hlk hC _ _ _ _ _ T0 T1 h
  · replace h := if_f h c7
    refine g_aload_n C (f := 0) dX10_needOfOrder_73 0 rfl ?_
    refine g_aload_n C (f := 1) dX10_needOfOrder_74 1 rfl ?_
    refine g_aload_n C (f := 2) dX10_needOfOrder_75 2 rfl ?_
    obtain ⟨q17, eq17, h⟩ := bd_e h
    refine g_cS C [(2, x0), (2, x1), (2, x2)] (cX10_waitsForSplit_ok l hC T0 T1 T2 eq17) km_RX10_166 cs_X10_waitsForSplit rfl (by decide) rfl rfl (Nat.le_of_ble_eq_true rfl) dX10_needOfOrder_76 ?_
    refine g_if_eq C 85 dX10_needOfOrder_79 rfl (fun c18 => ?_) (fun c18 => ?_)
    · replace h := if_t h c18
      refine g_sub [0, 1, 3, 4] rfl rfl ?_
      exact tX10_needOfOrder_85 C hr hlk hC _ _ _ _ _ T0 T1 h
    · replace h := if_f h c18
      refine g_sub [0, 1, 3] rfl rfl ?_
      exact tX10_needOfOrder_82 C hr hlk hC _ _ _ _ T0 T1 h
theorem tX10_needOfOrder_50 (C : MC_ E p s m c cX10_needOfOrder 5 RX10) (hr : meth.sig.returnType = (some FieldType.int)) (hlk : meth.locks = false) (hC : Cl_ E.2.2.2.2.2 sz) {out : Int × V_} (x0 x1 x2 x3 x4 : Int) (v : V_) (T0 : (E.2.2.2.2.2 x0 ∧ ty_ x0 = 1 ∧ ln_ x0 = 0)) (T1 : (E.2.2.2.2.2 x1 ∧ ty_ x1 = 1 ∧ ln_ x1 = 0)) (T2 : (E.2.2.2.2.2 x2 ∧ ty_ x2 = 5 ∧ ln_ x2 = 0)) (h : fX10_needOfOrder_50 x0 x1 x2 x3 x4 v = some out) : G_ E p l e (rm_ 2 45) s m args below meth c 5 sz (Q_ E below args s sz sz 0 out.1 out.2) 50 [(0, (2, x0)), (1, (2, x1)), (2, (2, x2)), (3, (0, x3)), (4, (0, x4))] [] v sz := by
  rw [fX10_needOfOrder_50] at h
  refine g_aload_n C (f := 0) dX10_needOfOrder_50 0 rfl ?_
  refine g_iconst C (n := 5) dX10_needOfOrder_51 (by decide) ?_
  obtain ⟨q4, eq4, h⟩ := bd_e h
  refine g_cV C [(0, 5)] (cX1_does_ok l hC T0 eq4) okX1 T0.2.1 (rg_ hC T0.1) km_RX10_159 cv_X1_does rfl (by decide) rfl rfl (Nat.le_of_ble_eq_true rfl) dX10_needOfOrder_52 ?_
  refine g_if_eq C 66 dX10_needOfOrder_55 rfl (fun c5 => ?_) (fun c5 => ?_)
  · replace h := if_t h c5
    refine g_sub [0, 1, 2, 3, 4] rfl rfl ?_
    exact tX10_needOfOrder_66 C hr hlk hC _ _ _ _ _ _ T0 T1 T2 h
  · replace h := if_f h c5
    refine g_aload_n C (f := 1) dX10_needOfOrder_58 1 rfl ?_
    refine g_iconst C (n := 5) dX10_needOfOrder_59 (by decide) ?_
    obtain ⟨q19, eq19, h⟩ := bd_e h
    refine g_cV C [(0, 5)] (cX1_does_ok l hC T1 eq19) okX1 T1.2.1 (rg_ hC T1.1) km_RX10_159 cv_X1_does rfl (by decide) rfl rfl (Nat.le_of_ble_eq_true rfl) dX10_needOfOrder_60 ?_
    refine g_if_ne C 82 dX10_needOfOrder_63 rfl (fun c20 => ?_) (fun c20 => ?_)
    · replace h := if_f h c20
      refine g_sub [0, 1, 3] rfl rfl ?_
      exact tX10_needOfOrder_82 C hr hlk hC _ _ _ _ T0 T1 h
    · replace h := if_t h c20
      refine g_sub [0, 1, 2, 3, 4] rfl rfl ?_
      exact tX10_needOfOrder_66 C hr hlk hC _ _ _ _ _ _ T0 T1 T2 h
theorem tX10_needOfOrder_47 (C : MC_ E p s m c cX10_needOfOrder 5 RX10) (hr : meth.sig.returnType = (some FieldType.int)) (hlk : meth.locks = false) (hC : Cl_ E.2.2.2.2.2 sz) {out : Int × V_} (x0 x1 x2 x3 : Int) (v : V_) (T0 : (E.2.2.2.2.2 x0 ∧ ty_ x0 = 1 ∧ ln_ x0 = 0)) (T1 : (E.2.2.2.2.2 x1 ∧ ty_ x1 = 1 ∧ ln_ x1 = 0)) (T2 : (E.2.2.2.2.2 x2 ∧ ty_ x2 = 5 ∧ ln_ x2 = 0)) (h : fX10_needOfOrder_47 x0 x1 x2 x3 v = some out) : G_ E p l e (rm_ 2 45) s m args below meth c 5 sz (Q_ E below args s sz sz 0 out.1 out.2) 47 [(0, (2, x0)), (1, (2, x1)), (2, (2, x2)), (3, (0, x3))] [] v sz := by
  rw [fX10_needOfOrder_47] at h
  refine g_iconst C (n := 0) dX10_needOfOrder_47 (by decide) ?_
  refine g_istore C (i := 4) (ls' := [(4, (0, 0)), (0, (2, x0)), (1, (2, x1)), (2, (2, x2)), (3, (0, x3))]) dX10_needOfOrder_48 (by decide) rfl ?_
  refine g_sub [1, 2, 3, 4, 0] rfl rfl ?_
  exact tX10_needOfOrder_50 C hr hlk hC _ _ _ _ _ _ T0 T1 T2 h
end
theorem cX10_needOfOrder_ok (l : Launch) {E : En_} {sz : Int} (hC : Cl_ E.2.2.2.2.2 sz) {x0 x1 x2 : Int} {v : V_} {out : Int × V_} (T0 : (E.2.2.2.2.2 x0 ∧ ty_ x0 = 1 ∧ ln_ x0 = 0)) (T1 : (E.2.2.2.2.2 x1 ∧ ty_ x1 = 1 ∧ ln_ x1 = 0)) (T2 : (E.2.2.2.2.2 x2 ∧ ty_ x2 = 5 ∧ ln_ x2 = 0)) (h : fX10_needOfOrder x0 x1 x2 v = some out) : Met l yX10_needOfOrder [.code yX10_needOfOrder cX10_needOfOrder 5 (some FieldType.int)] (rm_ 2 45) (Pc_ E sz v [(2, x0), (2, x1), (2, x2)]) (Qc_ E sz 0 out.1 out.2) 0 0 (fun q => E.1 < q) := by
  refine met_G0 RX10 (by decide +kernel) rfl (Nat.le_of_ble_eq_true rfl) ?_
  intro p e s m args below meth c C hr hlk
  rw [fX10_needOfOrder] at h
  refine g_aload_n C (f := 1) dX10_needOfOrder_0 1 rfl ?_
  have F1 := fX1_0 hC T1.1 T1.2.1
  refine g_getR C (k := 0) (o := 1) okX1 (by decide) kf_RX10_83 dX10_needOfOrder_1 hC T1.1 T1.2.1 rfl rfl ?_
  refine g_getf C (k := 1) (kd := 0) okX8 (by decide) kf_RX10_78 dX10_needOfOrder_4 (rg_ hC F1.1) F1.2.1 rfl ?_
  obtain ⟨y2, ey2, h⟩ := lt_e h
  refine g_set C ey2 ?_
  refine g_istore_n C (f := 3) (ls' := [(3, (0, y2)), (0, (2, x0)), (1, (2, x1)), (2, (2, x2))]) dX10_needOfOrder_7 (by decide) rfl ?_
  refine g_bipush C (n := (-2)) dX10_needOfOrder_8 (by decide) ?_
  refine g_istore C (i := 4) (ls' := [(4, (0, (-2))), (3, (0, y2)), (0, (2, x0)), (1, (2, x1)), (2, (2, x2))]) dX10_needOfOrder_10 (by decide) rfl ?_
  refine g_aload_n C (f := 1) dX10_needOfOrder_12 3 rfl ?_
  refine g_getf C (k := 1) (kd := 0) okX1 (by decide) kf_RX10_141 dX10_needOfOrder_13 (rg_ hC T1.1) T1.2.1 rfl ?_
  refine g_iconst C (n := 3) dX10_needOfOrder_16 (by decide) ?_
  refine g_icmp_eq C 47 dX10_needOfOrder_17 rfl (fun c3 => ?_) (fun c3 => ?_)
  · replace h := if_t h c3
    refine g_sub [2, 3, 4, 1] rfl rfl ?_
    exact tX10_needOfOrder_47 C hr hlk hC _ _ _ _ _ T0 T1 T2 h
  · replace h := if_f h c3
    refine g_aload_n C (f := 0) dX10_needOfOrder_20 2 rfl ?_
    have F21 := fX1_0 hC T0.1 T0.2.1
    refine g_getR C (k := 0) (o := 1) okX1 (by decide) kf_RX10_83 dX10_needOfOrder_21 hC T0.1 T0.2.1 rfl rfl ?_
    refine g_iload_n C (f := 3) dX10_needOfOrder_24 1 rfl ?_
    obtain ⟨q22, eq22, h⟩ := bd_e h
    refine g_cV C [(0, y2)] (cX8_looksAt_ok l hC F21 eq22) okX8 F21.2.1 (rg_ hC F21.1) km_RX10_155 cv_X8_looksAt rfl (by decide) rfl rfl (Nat.le_of_ble_eq_true rfl) dX10_needOfOrder_25 ?_
    refine g_if_ne C 47 dX10_needOfOrder_28 rfl (fun c23 => ?_) (fun c23 => ?_)
    · replace h := if_f h c23
      refine g_sub [2, 3, 4, 1] rfl rfl ?_
      exact tX10_needOfOrder_47 C hr hlk hC _ _ _ _ _ T0 T1 T2 h
    · replace h := if_t h c23
      refine g_aload_n C (f := 0) dX10_needOfOrder_31 2 rfl ?_
      refine g_iconst C (n := 4) dX10_needOfOrder_32 (by decide) ?_
      obtain ⟨q24, eq24, h⟩ := bd_e h
      refine g_cV C [(0, 4)] (cX1_does_ok l hC T0 eq24) okX1 T0.2.1 (rg_ hC T0.1) km_RX10_159 cv_X1_does rfl (by decide) rfl rfl (Nat.le_of_ble_eq_true rfl) dX10_needOfOrder_33 ?_
      refine g_if_eq C 50 dX10_needOfOrder_36 rfl (fun c25 => ?_) (fun c25 => ?_)
      · replace h := if_t h c25
        refine g_sub [2, 3, 4, 1, 0] rfl rfl ?_
        exact tX10_needOfOrder_50 C hr hlk hC _ _ _ _ _ _ T0 T1 T2 h
      · replace h := if_f h c25
        refine g_aload_n C (f := 1) dX10_needOfOrder_39 3 rfl ?_
        refine g_iconst C (n := 5) dX10_needOfOrder_40 (by decide) ?_
        obtain ⟨q26, eq26, h⟩ := bd_e h
        refine g_cV C [(0, 5)] (cX1_does_ok l hC T1 eq26) okX1 T1.2.1 (rg_ hC T1.1) km_RX10_159 cv_X1_does rfl (by decide) rfl rfl (Nat.le_of_ble_eq_true rfl) dX10_needOfOrder_41 ?_
        refine g_if_eq C 50 dX10_needOfOrder_44 rfl (fun c27 => ?_) (fun c27 => ?_)
        · replace h := if_t h c27
          refine g_sub [2, 3, 4, 1, 0] rfl rfl ?_
          exact tX10_needOfOrder_50 C hr hlk hC _ _ _ _ _ _ T0 T1 T2 h
        · replace h := if_f h c27
          refine g_sub [2, 3, 4, 1] rfl rfl ?_
          exact tX10_needOfOrder_47 C hr hlk hC _ _ _ _ _ T0 T1 T2 h
theorem dX10_needWhatSet_0 : decode cX10_needWhatSet 0 = .ok (.iload_n 1, 1) := by decide +kernel
theorem dX10_needWhatSet_1 : decode cX10_needWhatSet 1 = .ok (.ifCond .ge 25, 3) := by decide +kernel
theorem dX10_needWhatSet_4 : decode cX10_needWhatSet 4 = .ok (.iload_n 1, 1) := by decide +kernel
theorem dX10_needWhatSet_5 : decode cX10_needWhatSet 5 = .ok (.iconst (-1), 1) := by decide +kernel
theorem dX10_needWhatSet_6 : decode cX10_needWhatSet 6 = .ok (.ixor, 1) := by decide +kernel
theorem dX10_needWhatSet_7 : decode cX10_needWhatSet 7 = .ok (.aload_n 0, 1) := by decide +kernel
theorem dX10_needWhatSet_8 : decode cX10_needWhatSet 8 = .ok (.getfield 30, 3) := by decide +kernel
theorem dX10_needWhatSet_11 : decode cX10_needWhatSet 11 = .ok (.arraylength, 1) := by decide +kernel
theorem dX10_needWhatSet_12 : decode cX10_needWhatSet 12 = .ok (.if_icmp .ge 14, 3) := by decide +kernel
theorem dX10_needWhatSet_15 : decode cX10_needWhatSet 15 = .ok (.aload_n 0, 1) := by decide +kernel
theorem dX10_needWhatSet_16 : decode cX10_needWhatSet 16 = .ok (.getfield 30, 3) := by decide +kernel
theorem dX10_needWhatSet_19 : decode cX10_needWhatSet 19 = .ok (.iload_n 1, 1) := by decide +kernel
theorem dX10_needWhatSet_20 : decode cX10_needWhatSet 20 = .ok (.iconst (-1), 1) := by decide +kernel
theorem dX10_needWhatSet_21 : decode cX10_needWhatSet 21 = .ok (.ixor, 1) := by decide +kernel
theorem dX10_needWhatSet_22 : decode cX10_needWhatSet 22 = .ok (.iaload, 1) := by decide +kernel
theorem dX10_needWhatSet_23 : decode cX10_needWhatSet 23 = .ok (.goto 4, 3) := by decide +kernel
theorem dX10_needWhatSet_26 : decode cX10_needWhatSet 26 = .ok (.iconst (-1), 1) := by decide +kernel
theorem dX10_needWhatSet_27 : decode cX10_needWhatSet 27 = .ok (.istore_n 3, 1) := by decide +kernel
theorem dX10_needWhatSet_28 : decode cX10_needWhatSet 28 = .ok (.iload_n 3, 1) := by decide +kernel
theorem dX10_needWhatSet_29 : decode cX10_needWhatSet 29 = .ok (.ifCond .lt 32, 3) := by decide +kernel
theorem dX10_needWhatSet_32 : decode cX10_needWhatSet 32 = .ok (.aload_n 0, 1) := by decide +kernel
theorem dX10_needWhatSet_33 : decode cX10_needWhatSet 33 = .ok (.getfield 24, 3) := by decide +kernel
theorem dX10_needWhatSet_36 : decode cX10_needWhatSet 36 = .ok (.iload_n 3, 1) := by decide +kernel
theorem dX10_needWhatSet_37 : decode cX10_needWhatSet 37 = .ok (.bipush 34, 2) := by decide +kernel
theorem dX10_needWhatSet_39 : decode cX10_needWhatSet 39 = .ok (.imul, 1) := by decide +kernel
theorem dX10_needWhatSet_40 : decode cX10_needWhatSet 40 = .ok (.iload_n 2, 1) := by decide +kernel
theorem dX10_needWhatSet_41 : decode cX10_needWhatSet 41 = .ok (.iadd, 1) := by decide +kernel
theorem dX10_needWhatSet_42 : decode cX10_needWhatSet 42 = .ok (.aload_n 0, 1) := by decide +kernel
theorem dX10_needWhatSet_43 : decode cX10_needWhatSet 43 = .ok (.iload_n 3, 1) := by decide +kernel
theorem dX10_needWhatSet_44 : decode cX10_needWhatSet 44 = .ok (.iload_n 2, 1) := by decide +kernel
theorem dX10_needWhatSet_45 : decode cX10_needWhatSet 45 = .ok (.invokevirtual 175, 3) := by decide +kernel
theorem dX10_needWhatSet_48 : decode cX10_needWhatSet 48 = .ok (.aload_n 0, 1) := by decide +kernel
theorem dX10_needWhatSet_49 : decode cX10_needWhatSet 49 = .ok (.getfield 17, 3) := by decide +kernel
theorem dX10_needWhatSet_52 : decode cX10_needWhatSet 52 = .ok (.iload_n 3, 1) := by decide +kernel
theorem dX10_needWhatSet_53 : decode cX10_needWhatSet 53 = .ok (.aaload, 1) := by decide +kernel
theorem dX10_needWhatSet_54 : decode cX10_needWhatSet 54 = .ok (.getfield 138, 3) := by decide +kernel
theorem dX10_needWhatSet_57 : decode cX10_needWhatSet 57 = .ok (.invokestatic 170, 3) := by decide +kernel
theorem dX10_needWhatSet_60 : decode cX10_needWhatSet 60 = .ok (.iastore, 1) := by decide +kernel
theorem dX10_needWhatSet_61 : decode cX10_needWhatSet 61 = .ok (.return_, 1) := by decide +kernel
def fX10_needWhatSet_27 (x0 x2 s0 : Int) (v : V_) : Option (Int × V_) :=
  if s0 < 0 then (
    some (0, v))
  else (
    bd_ (fX10_needOf x0 s0 x2 v) fun q4 =>
    ck_ (0 ≤ s0 ∧ s0 < 34) (
    ck_ (0 ≤ wr_ ((wr_ (s0 * 34)) + x2) ∧ wr_ ((wr_ (s0 * 34)) + x2) < 1156) (
    lt_ (up_ q4.2 (x0 + 4) (wr_ ((wr_ (s0 * 34)) + x2)) (mx_ q4.1 (q4.2 ((x0 + 2) + (5 + 2 * s0)) 3))) fun v9 =>
    some (0, v9))))
def fX10_needWhatSet_26 (x0 x2 : Int) (v : V_) : Option (Int × V_) :=
  fX10_needWhatSet_27 x0 x2 (-1) v
def fX10_needWhatSet (x0 x1 x2 : Int) (v : V_) : Option (Int × V_) :=
  if 0 ≤ x1 then (
    fX10_needWhatSet_26 x0 x2 v)
  else (
    if 12 ≤ (bX_ x1 (-1)) then (
      fX10_needWhatSet_26 x0 x2 v)
    else (
      ck_ (0 ≤ bX_ x1 (-1) ∧ bX_ x1 (-1) < 12) (
      fX10_needWhatSet_27 x0 x2 (v (x0 + 6) (bX_ x1 (-1))) v)))
section
variable {E : En_} {p : Program} {l : Launch} {e : Env} {s : State} {m : MethodId} {args : Array Value} {below : List Frame} {meth : Method} {c : Code} {sz : Int}
theorem tX10_needWhatSet_27 (C : MC_ E p s m c cX10_needWhatSet 4 RX10) (hr : meth.sig.returnType = (none : Option FieldType)) (hlk : meth.locks = false) (hC : Cl_ E.2.2.2.2.2 sz) {out : Int × V_} (x0 x2 s0 : Int) (v : V_) (T0 : (E.2.2.2.2.2 x0 ∧ ty_ x0 = 10 ∧ ln_ x0 = 0)) (h : fX10_needWhatSet_27 x0 x2 s0 v = some out) : G_ E p l e (rm_ 1 22) s m args below meth c 4 sz (Q_ E below args s sz sz 9 out.1 out.2) 27 [(0, (2, x0)), (2, (0, x2))] [(0, s0)] v sz := by
  rw [fX10_needWhatSet_27] at h
  refine g_istore_n C (f := 3) (ls' := [(3, (0, s0)), (0, (2, x0)), (2, (0, x2))]) dX10_needWhatSet_27 (by decide) rfl ?_
  refine g_iload_n C (f := 3) dX10_needWhatSet_28 0 rfl ?_
  refine g_if_lt C 61 dX10_needWhatSet_29 rfl (fun c2 => ?_) (fun c2 => ?_)
  · replace h := if_t h c2
    cases h
    exact g_vret C dX10_needWhatSet_61 hr hlk
  · replace h := if_f h c2
    refine g_aload_n C (f := 0) dX10_needWhatSet_32 1 rfl ?_
    have F3 := fX10_13 hC T0.1 T0.2.1
    refine g_getR C (k := 13) (o := 4) okX10 (by decide) kf_RX10_24 dX10_needWhatSet_33 hC T0.1 T0.2.1 rfl rfl ?_
    refine g_iload_n C (f := 3) dX10_needWhatSet_36 0 rfl ?_
    refine g_bipush C (n := 34) dX10_needWhatSet_37 (by decide) ?_
    refine g_imul C dX10_needWhatSet_39 ?_
    refine g_iload_n C (f := 2) dX10_needWhatSet_40 2 rfl ?_
    refine g_iadd C dX10_needWhatSet_41 ?_
    refine g_aload_n C (f := 0) dX10_needWhatSet_42 1 rfl ?_
    refine g_iload_n C (f := 3) dX10_needWhatSet_43 0 rfl ?_
    refine g_iload_n C (f := 2) dX10_needWhatSet_44 2 rfl ?_
    obtain ⟨q4, eq4, h⟩ := bd_e h
    refine g_cV C [(0, s0), (0, x2)] (cX10_needOf_ok l hC T0 eq4) okX10 T0.2.1 (rg_ hC T0.1) km_RX10_175 cv_X10_needOf rfl (by decide) rfl rfl (Nat.le_of_ble_eq_true rfl) dX10_needWhatSet_45 ?_
    refine g_aload_n C (f := 0) dX10_needWhatSet_48 1 rfl ?_
    have F5 := fX10_2 hC T0.1 T0.2.1
    refine g_getR C (k := 2) (o := 2) okX10 (by decide) kf_RX10_17 dX10_needWhatSet_49 hC T0.1 T0.2.1 rfl rfl ?_
    refine g_iload_n C (f := 3) dX10_needWhatSet_52 0 rfl ?_
    obtain ⟨c6, h⟩ := ck_e h
    have F7 := fE_items (i := s0) hC F5.1 F5.2.1 F5.2.2 c6
    refine g_aald C 26 34 5 2 dX10_needWhatSet_53 hC F5.1 F5.2.1 F5.2.2 c6 (by decide) oA_items ?_
    refine g_getf C (k := 3) (kd := 0) okX1 (by decide) kf_RX10_138 dX10_needWhatSet_54 (rg_ hC F7.1) F7.2.1 rfl ?_
    refine g_max0 C km_RX10_170 dX10_needWhatSet_57 ⟨Nat.le_of_ble_eq_true rfl, Nat.le_of_ble_eq_true rfl⟩ ?_
    obtain ⟨c8, h⟩ := ck_e h
    obtain ⟨v9, ev9, h⟩ := lt_e h
    refine g_iast C 1156 dX10_needWhatSet_60 (rg_ hC F3.1) F3.2.1 F3.2.2 c8 v9 ev9 ?_
    cases h
    exact g_vret C dX10_needWhatSet_61 hr hlk
theorem tX10_needWhatSet_26 (C : MC_ E p s m c cX10_needWhatSet 4 RX10) (hr : meth.sig.returnType = (none : Option FieldType)) (hlk : meth.locks = false) (hC : Cl_ E.2.2.2.2.2 sz) {out : Int × V_} (x0 x2 : Int) (v : V_) (T0 : (E.2.2.2.2.2 x0 ∧ ty_ x0 = 10 ∧ ln_ x0 = 0)) (h : fX10_needWhatSet_26 x0 x2 v = some out) : G_ E p l e (rm_ 1 22) s m args below meth c 4 sz (Q_ E below args s sz sz 9 out.1 out.2) 26 [(0, (2, x0)), (2, (0, x2))] [] v sz := by
  rw [fX10_needWhatSet_26] at h
  refine g_iconst C (n := (-1)) dX10_needWhatSet_26 (by decide) ?_
  refine g_sub [0, 1] rfl rfl ?_
  exact tX10_needWhatSet_27 C hr hlk hC _ _ _ _ T0 h
end
theorem cX10_needWhatSet_ok (l : Launch) {E : En_} {sz : Int} (hC : Cl_ E.2.2.2.2.2 sz) {x0 x1 x2 : Int} {v : V_} {out : Int × V_} (T0 : (E.2.2.2.2.2 x0 ∧ ty_ x0 = 10 ∧ ln_ x0 = 0)) (h : fX10_needWhatSet x0 x1 x2 v = some out) : Met l yX10_needWhatSet [.code yX10_needWhatSet cX10_needWhatSet 4 (none : Option FieldType)] (rm_ 1 22) (Pc_ E sz v [(2, x0), (0, x1), (0, x2)]) (Qc_ E sz 9 out.1 out.2) 0 0 (fun q => E.1 < q) := by
  refine met_G0 RX10 (by decide +kernel) rfl (Nat.le_of_ble_eq_true rfl) ?_
  intro p e s m args below meth c C hr hlk
  rw [fX10_needWhatSet] at h
  refine g_iload_n C (f := 1) dX10_needWhatSet_0 1 rfl ?_
  refine g_if_ge C 26 dX10_needWhatSet_1 rfl (fun c1 => ?_) (fun c1 => ?_)
  · replace h := if_t h c1
    refine g_sub [0, 2] rfl rfl ?_
    exact tX10_needWhatSet_26 C hr hlk hC _ _ _ T0 h
  · replace h := if_f h c1
    refine g_iload_n C (f := 1) dX10_needWhatSet_4 1 rfl ?_
    refine g_iconst C (n := (-1)) dX10_needWhatSet_5 (by decide) ?_
    refine g_ixor C dX10_needWhatSet_6 ?_
    refine g_aload_n C (f := 0) dX10_needWhatSet_7 0 rfl ?_
    have F10 := fX10_15 hC T0.1 T0.2.1
    refine g_getR C (k := 15) (o := 6) okX10 (by decide) kf_RX10_30 dX10_needWhatSet_8 hC T0.1 T0.2.1 rfl rfl ?_
    refine g_alen C 20 12 dX10_needWhatSet_11 (rg_ hC F10.1) F10.2.1 F10.2.2 (by decide) (by decide) ?_
    refine g_icmp_ge C 26 dX10_needWhatSet_12 rfl (fun c11 => ?_) (fun c11 => ?_)
    · replace h := if_t h c11
      refine g_sub [0, 2] rfl rfl ?_
      exact tX10_needWhatSet_26 C hr hlk hC _ _ _ T0 h
    · replace h := if_f h c11
      refine g_aload_n C (f := 0) dX10_needWhatSet_15 0 rfl ?_
      have F12 := fX10_15 hC T0.1 T0.2.1
      refine g_getR C (k := 15) (o := 6) okX10 (by decide) kf_RX10_30 dX10_needWhatSet_16 hC T0.1 T0.2.1 rfl rfl ?_
      refine g_iload_n C (f := 1) dX10_needWhatSet_19 1 rfl ?_
      refine g_iconst C (n := (-1)) dX10_needWhatSet_20 (by decide) ?_
      refine g_ixor C dX10_needWhatSet_21 ?_
      obtain ⟨c13, h⟩ := ck_e h
      refine g_iald C 12 dX10_needWhatSet_22 (rg_ hC F12.1) F12.2.1 F12.2.2 c13 ?_
      refine g_goto C 27 dX10_needWhatSet_23 rfl ?_
      refine g_sub [0, 2] rfl rfl ?_
      exact tX10_needWhatSet_27 C hr hlk hC _ _ _ _ T0 h
theorem dX7_latencyOf_0 : decode cX7_latencyOf 0 = .ok (.aload_n 0, 1) := by decide +kernel
theorem dX7_latencyOf_1 : decode cX7_latencyOf 1 = .ok (.getfield 11, 3) := by decide +kernel
theorem dX7_latencyOf_4 : decode cX7_latencyOf 4 = .ok (.bipush 42, 2) := by decide +kernel
theorem dX7_latencyOf_6 : decode cX7_latencyOf 6 = .ok (.iload_n 1, 1) := by decide +kernel
theorem dX7_latencyOf_7 : decode cX7_latencyOf 7 = .ok (.iadd, 1) := by decide +kernel
theorem dX7_latencyOf_8 : decode cX7_latencyOf 8 = .ok (.iaload, 1) := by decide +kernel
theorem dX7_latencyOf_9 : decode cX7_latencyOf 9 = .ok (.ireturn, 1) := by decide +kernel
def fX7_latencyOf (x0 x1 : Int) (v : V_) : Option (Int × V_) :=
  ck_ (0 ≤ wr_ (42 + x1) ∧ wr_ (42 + x1) < 47) (
  some (v (x0 + 1) (wr_ (42 + x1)), v))
theorem cX7_latencyOf_ok (l : Launch) {E : En_} {sz : Int} (hC : Cl_ E.2.2.2.2.2 sz) {x0 x1 : Int} {v : V_} {out : Int × V_} (T0 : (E.2.2.2.2.2 x0 ∧ ty_ x0 = 7 ∧ ln_ x0 = 0)) (h : fX7_latencyOf x0 x1 v = some out) : Met l yX7_latencyOf [.code yX7_latencyOf cX7_latencyOf 2 (some FieldType.int)] (rm_ 0 0) (Pc_ E sz v [(2, x0), (0, x1)]) (Qc_ E sz 0 out.1 out.2) 0 0 (fun q => E.1 < q) := by
  refine met_G0 RX7 (by decide +kernel) rfl (Nat.le_of_ble_eq_true rfl) ?_
  intro p e s m args below meth c C hr hlk
  rw [fX7_latencyOf] at h
  refine g_aload_n C (f := 0) dX7_latencyOf_0 0 rfl ?_
  have F1 := fX7_0 hC T0.1 T0.2.1
  refine g_getR C (k := 0) (o := 1) okX7 (by decide) kf_RX7_11 dX7_latencyOf_1 hC T0.1 T0.2.1 rfl rfl ?_
  refine g_bipush C (n := 42) dX7_latencyOf_4 (by decide) ?_
  refine g_iload_n C (f := 1) dX7_latencyOf_6 1 rfl ?_
  refine g_iadd C dX7_latencyOf_7 ?_
  obtain ⟨c2, h⟩ := ck_e h
  refine g_iald C 47 dX7_latencyOf_8 (rg_ hC F1.1) F1.2.1 F1.2.2 c2 ?_
  cases h
  exact g_iret C dX7_latencyOf_9 hr hlk
