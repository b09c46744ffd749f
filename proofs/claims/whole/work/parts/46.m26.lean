theorem dX12_appends_0 : decode cX12_appends 0 = .ok (.iload_n 2, 1) := by decide +kernel
theorem dX12_appends_1 : decode cX12_appends 1 = .ok (.ifCond .ne 7, 3) := by decide +kernel
theorem dX12_appends_4 : decode cX12_appends 4 = .ok (.lload_n 0, 1) := by decide +kernel
theorem dX12_appends_5 : decode cX12_appends 5 = .ok (.goto 16, 3) := by decide +kernel
theorem dX12_appends_8 : decode cX12_appends 8 = .ok (.ldc2_w 217, 3) := by decide +kernel
theorem dX12_appends_11 : decode cX12_appends 11 = .ok (.lload_n 0, 1) := by decide +kernel
theorem dX12_appends_12 : decode cX12_appends 12 = .ok (.lmul, 1) := by decide +kernel
theorem dX12_appends_13 : decode cX12_appends 13 = .ok (.iload_n 2, 1) := by decide +kernel
theorem dX12_appends_14 : decode cX12_appends 14 = .ok (.bipush 97, 2) := by decide +kernel
theorem dX12_appends_16 : decode cX12_appends 16 = .ok (.isub, 1) := by decide +kernel
theorem dX12_appends_17 : decode cX12_appends 17 = .ok (.iconst 1, 1) := by decide +kernel
theorem dX12_appends_18 : decode cX12_appends 18 = .ok (.iadd, 1) := by decide +kernel
theorem dX12_appends_19 : decode cX12_appends 19 = .ok (.i2l, 1) := by decide +kernel
theorem dX12_appends_20 : decode cX12_appends 20 = .ok (.ladd, 1) := by decide +kernel
theorem dX12_appends_21 : decode cX12_appends 21 = .ok (.lreturn, 1) := by decide +kernel
def fX12_appends (x0 x2 : Int) (v : V_) : Option (Int × V_) :=
  if x2 = 0 then (
    some (x0, v))
  else (
    some (wl_ ((wl_ (27 * x0)) + (wr_ ((wr_ (x2 - 97)) + 1))), v))
theorem cX12_appends_ok (l : Launch) {E : En_} {sz : Int} (hC : Cl_ E.2.2.2.2.2 sz) {x0 x2 : Int} {v : V_} {out : Int × V_} (h : fX12_appends x0 x2 v = some out) : Met l yX12_appends [.code yX12_appends cX12_appends 3 (some FieldType.long)] (rm_ 0 0) (Pc_ E sz v [(1, x0), (0, x2)]) (Qc_ E sz 1 out.1 out.2) 0 0 (fun q => E.1 < q) := by
  refine met_G0 RX12 (by decide +kernel) rfl (Nat.le_of_ble_eq_true rfl) ?_
  intro p e s m args below meth c C hr hlk
  rw [fX12_appends] at h
  refine g_iload_n C (f := 2) dX12_appends_0 1 rfl ?_
  refine g_if_ne C 8 dX12_appends_1 rfl (fun c1 => ?_) (fun c1 => ?_)
  · replace h := if_f h c1
    refine g_ldc2 C (n := 27) kc_RX12_217 dX12_appends_8 (by decide) ?_
    refine g_lload_n C (f := 0) dX12_appends_11 0 rfl ?_
    refine g_lmul C dX12_appends_12 ?_
    refine g_iload_n C (f := 2) dX12_appends_13 1 rfl ?_
    refine g_bipush C (n := 97) dX12_appends_14 (by decide) ?_
    refine g_isub C dX12_appends_16 ?_
    refine g_iconst C (n := 1) dX12_appends_17 (by decide) ?_
    refine g_iadd C dX12_appends_18 ?_
    refine g_i2l C dX12_appends_19 ?_
    refine g_ladd C dX12_appends_20 ?_
    cases h
    exact g_lret C dX12_appends_21 hr hlk
  · replace h := if_t h c1
    refine g_lload_n C (f := 0) dX12_appends_4 0 rfl ?_
    refine g_goto C 21 dX12_appends_5 rfl ?_
    cases h
    exact g_lret C dX12_appends_21 hr hlk
theorem dX12_back_0 : decode cX12_back 0 = .ok (.iload_n 1, 1) := by decide +kernel
theorem dX12_back_1 : decode cX12_back 1 = .ok (.ifCond .lt 11, 3) := by decide +kernel
theorem dX12_back_4 : decode cX12_back 4 = .ok (.iload_n 1, 1) := by decide +kernel
theorem dX12_back_5 : decode cX12_back 5 = .ok (.aload_n 0, 1) := by decide +kernel
theorem dX12_back_6 : decode cX12_back 6 = .ok (.getfield 208, 3) := by decide +kernel
theorem dX12_back_9 : decode cX12_back 9 = .ok (.if_icmp .le 5, 3) := by decide +kernel
theorem dX12_back_12 : decode cX12_back 12 = .ok (.iconst (-1), 1) := by decide +kernel
theorem dX12_back_13 : decode cX12_back 13 = .ok (.ireturn, 1) := by decide +kernel
theorem dX12_back_14 : decode cX12_back 14 = .ok (.aload_n 0, 1) := by decide +kernel
theorem dX12_back_15 : decode cX12_back 15 = .ok (.dup, 1) := by decide +kernel
theorem dX12_back_16 : decode cX12_back 16 = .ok (.getfield 208, 3) := by decide +kernel
theorem dX12_back_19 : decode cX12_back 19 = .ok (.iload_n 1, 1) := by decide +kernel
theorem dX12_back_20 : decode cX12_back 20 = .ok (.isub, 1) := by decide +kernel
theorem dX12_back_21 : decode cX12_back 21 = .ok (.putfield 208, 3) := by decide +kernel
theorem dX12_back_24 : decode cX12_back 24 = .ok (.aload_n 0, 1) := by decide +kernel
theorem dX12_back_25 : decode cX12_back 25 = .ok (.getfield 208, 3) := by decide +kernel
theorem dX12_back_28 : decode cX12_back 28 = .ok (.ireturn, 1) := by decide +kernel
def fX12_back (x0 x1 : Int) (v : V_) : Option (Int × V_) :=
  if x1 < 0 then (
    some ((-1), v))
  else (
    if x1 ≤ (v x0 2) then (
      lt_ (up_ v x0 2 (wr_ ((v x0 2) - x1))) fun v3 =>
      some (v3 x0 2, v3))
    else (
      some ((-1), v)))
theorem cX12_back_ok (l : Launch) {E : En_} {sz : Int} (hC : Cl_ E.2.2.2.2.2 sz) {x0 x1 : Int} {v : V_} {out : Int × V_} (T0 : (E.2.2.2.2.2 x0 ∧ ty_ x0 = 12 ∧ ln_ x0 = 0)) (h : fX12_back x0 x1 v = some out) : Met l yX12_back [.code yX12_back cX12_back 2 (some FieldType.int)] (rm_ 0 0) (Pc_ E sz v [(2, x0), (0, x1)]) (Qc_ E sz 0 out.1 out.2) 0 0 (fun q => E.1 < q) := by
  refine met_G0 RX12 (by decide +kernel) rfl (Nat.le_of_ble_eq_true rfl) ?_
  intro p e s m args below meth c C hr hlk
  rw [fX12_back] at h
  refine g_iload_n C (f := 1) dX12_back_0 1 rfl ?_
  refine g_if_lt C 12 dX12_back_1 rfl (fun c1 => ?_) (fun c1 => ?_)
  · replace h := if_t h c1
    refine g_iconst C (n := (-1)) dX12_back_12 (by decide) ?_
    cases h
    exact g_iret C dX12_back_13 hr hlk
  · replace h := if_f h c1
    refine g_iload_n C (f := 1) dX12_back_4 1 rfl ?_
    refine g_aload_n C (f := 0) dX12_back_5 0 rfl ?_
    refine g_getf C (k := 2) (kd := 0) okX12 (by decide) kf_RX12_208 dX12_back_6 (rg_ hC T0.1) T0.2.1 rfl ?_
    refine g_icmp_le C 14 dX12_back_9 rfl (fun c2 => ?_) (fun c2 => ?_)
    · replace h := if_t h c2
      refine g_aload_n C (f := 0) dX12_back_14 0 rfl ?_
      refine g_dup C (Nat.ne_of_beq_eq_false rfl) dX12_back_15 ?_
      refine g_getf C (k := 2) (kd := 0) okX12 (by decide) kf_RX12_208 dX12_back_16 (rg_ hC T0.1) T0.2.1 rfl ?_
      refine g_iload_n C (f := 1) dX12_back_19 1 rfl ?_
      refine g_isub C dX12_back_20 ?_
      obtain ⟨v3, ev3, h⟩ := lt_e h
      refine g_putf C (k := 2) (kd := 0) okX12 (by decide) kf_RX12_208 dX12_back_21 (rg_ hC T0.1) T0.2.1 rfl rfl nvI (Or.inl rfl) v3 ev3 ?_
      refine g_aload_n C (f := 0) dX12_back_24 0 rfl ?_
      refine g_getf C (k := 2) (kd := 0) okX12 (by decide) kf_RX12_208 dX12_back_25 (rg_ hC T0.1) T0.2.1 rfl ?_
      cases h
      exact g_iret C dX12_back_28 hr hlk
    · replace h := if_f h c2
      refine g_iconst C (n := (-1)) dX12_back_12 (by decide) ?_
      cases h
      exact g_iret C dX12_back_13 hr hlk
theorem dX12_keepsRow_0 : decode cX12_keepsRow 0 = .ok (.iconst 0, 1) := by decide +kernel
theorem dX12_keepsRow_1 : decode cX12_keepsRow 1 = .ok (.istore_n 1, 1) := by decide +kernel
theorem dX12_keepsRow_2 : decode cX12_keepsRow 2 = .ok (.iload_n 1, 1) := by decide +kernel
theorem dX12_keepsRow_3 : decode cX12_keepsRow 3 = .ok (.bipush 47, 2) := by decide +kernel
theorem dX12_keepsRow_5 : decode cX12_keepsRow 5 = .ok (.if_icmp .ge 21, 3) := by decide +kernel
theorem dX12_keepsRow_8 : decode cX12_keepsRow 8 = .ok (.aload_n 0, 1) := by decide +kernel
theorem dX12_keepsRow_9 : decode cX12_keepsRow 9 = .ok (.getfield 85, 3) := by decide +kernel
theorem dX12_keepsRow_12 : decode cX12_keepsRow 12 = .ok (.iload_n 1, 1) := by decide +kernel
theorem dX12_keepsRow_13 : decode cX12_keepsRow 13 = .ok (.aload_n 0, 1) := by decide +kernel
theorem dX12_keepsRow_14 : decode cX12_keepsRow 14 = .ok (.getfield 88, 3) := by decide +kernel
theorem dX12_keepsRow_17 : decode cX12_keepsRow 17 = .ok (.iload_n 1, 1) := by decide +kernel
theorem dX12_keepsRow_18 : decode cX12_keepsRow 18 = .ok (.iaload, 1) := by decide +kernel
theorem dX12_keepsRow_19 : decode cX12_keepsRow 19 = .ok (.iastore, 1) := by decide +kernel
theorem dX12_keepsRow_20 : decode cX12_keepsRow 20 = .ok (.iinc 1 1, 3) := by decide +kernel
theorem dX12_keepsRow_23 : decode cX12_keepsRow 23 = .ok (.goto (-21), 3) := by decide +kernel
theorem dX12_keepsRow_26 : decode cX12_keepsRow 26 = .ok (.return_, 1) := by decide +kernel
def fX12_keepsRow_2 : Nat → Int → Int → V_ → Option (Int × V_)
  | 0, _, _, _ => none
  | n + 1, x0, x1, v =>
    if 47 ≤ x1 then (
      some (0, v))
    else (
      ck_ (0 ≤ x1 ∧ x1 < 47) (
      ck_ (0 ≤ x1 ∧ x1 < 47) (
      lt_ (up_ v (x0 + 23) x1 (v (x0 + 24) x1)) fun v6 =>
      lt_ (wr_ (x1 + 1)) fun y7 =>
      (fX12_keepsRow_2 n) x0 y7 v6)))
def fX12_keepsRow (x0 : Int) (v : V_) : Option (Int × V_) :=
  fX12_keepsRow_2 fu_ x0 0 v
section
variable {E : En_} {p : Program} {l : Launch} {e : Env} {s : State} {m : MethodId} {args : Array Value} {below : List Frame} {meth : Method} {c : Code} {sz : Int}
theorem tX12_keepsRow_2 (C : MC_ E p s m c cX12_keepsRow 2 RX12) (hr : meth.sig.returnType = (none : Option FieldType)) (hlk : meth.locks = false) (hC : Cl_ E.2.2.2.2.2 sz) {out : Int × V_} : ∀ (n : Nat) (x0 x1 : Int) (v : V_), (E.2.2.2.2.2 x0 ∧ ty_ x0 = 12 ∧ ln_ x0 = 0) → fX12_keepsRow_2 n x0 x1 v = some out → G_ E p l e (rm_ 0 0) s m args below meth c 2 sz (Q_ E below args s sz sz 9 out.1 out.2) 2 [(0, (2, x0)), (1, (0, x1))] [] v sz := by
  intro n
  induction n with
  | zero =>
    intro x0 x1 v T0 h
    cases h
  | succ n H_2 =>
    intro x0 x1 v T0 h
    rw [fX12_keepsRow_2] at h
    refine g_iload_n C (f := 1) dX12_keepsRow_2 1 rfl ?_
    refine g_bipush C (n := 47) dX12_keepsRow_3 (by decide) ?_
    refine g_icmp_ge C 26 dX12_keepsRow_5 rfl (fun c1 => ?_) (fun c1 => ?_)
    · replace h := if_t h c1
      cases h
      exact g_vret C dX12_keepsRow_26 hr hlk
    · replace h := if_f h c1
      refine g_aload_n C (f := 0) dX12_keepsRow_8 0 rfl ?_
      have F2 := fX12_36 hC T0.1 T0.2.1
      refine g_getR C (k := 36) (o := 23) okX12 (by decide) kf_RX12_85 dX12_keepsRow_9 hC T0.1 T0.2.1 rfl rfl ?_
      refine g_iload_n C (f := 1) dX12_keepsRow_12 1 rfl ?_
      refine g_aload_n C (f := 0) dX12_keepsRow_13 0 rfl ?_
      have F3 := fX12_37 hC T0.1 T0.2.1
      refine g_getR C (k := 37) (o := 24) okX12 (by decide) kf_RX12_88 dX12_keepsRow_14 hC T0.1 T0.2.1 rfl rfl ?_
      refine g_iload_n C (f := 1) dX12_keepsRow_17 1 rfl ?_
      obtain ⟨c4, h⟩ := ck_e h
      refine g_iald C 47 dX12_keepsRow_18 (rg_ hC F3.1) F3.2.1 F3.2.2 c4 ?_
      obtain ⟨c5, h⟩ := ck_e h
      obtain ⟨v6, ev6, h⟩ := lt_e h
      refine g_iast C 47 dX12_keepsRow_19 (rg_ hC F2.1) F2.2.1 F2.2.2 c5 v6 ev6 ?_
      obtain ⟨y7, ey7, h⟩ := lt_e h
      refine g_iincx C (ls' := [(1, (0, y7)), (0, (2, x0))]) ey7 dX12_keepsRow_20 1 rfl (by decide) (by decide) rfl ?_
      refine g_goto C 2 dX12_keepsRow_23 rfl ?_
      refine g_sub [1, 0] rfl rfl ?_
      exact H_2 _ _ _ T0 h
end
theorem cX12_keepsRow_ok (l : Launch) {E : En_} {sz : Int} (hC : Cl_ E.2.2.2.2.2 sz) {x0 : Int} {v : V_} {out : Int × V_} (T0 : (E.2.2.2.2.2 x0 ∧ ty_ x0 = 12 ∧ ln_ x0 = 0)) (h : fX12_keepsRow x0 v = some out) : Met l yX12_keepsRow [.code yX12_keepsRow cX12_keepsRow 2 (none : Option FieldType)] (rm_ 0 0) (Pc_ E sz v [(2, x0)]) (Qc_ E sz 9 out.1 out.2) 0 0 (fun q => E.1 < q) := by
  refine met_G0 RX12 (by decide +kernel) rfl (Nat.le_of_ble_eq_true rfl) ?_
  intro p e s m args below meth c C hr hlk
  rw [fX12_keepsRow] at h
  refine g_iconst C (n := 0) dX12_keepsRow_0 (by decide) ?_
  refine g_istore_n C (f := 1) (ls' := [(1, (0, 0)), (0, (2, x0))]) dX12_keepsRow_1 (by decide) rfl ?_
  refine g_sub [1, 0] rfl rfl ?_
  exact tX12_keepsRow_2 C hr hlk hC _ _ _ _ T0 h
theorem dX12_records_0 : decode cX12_records 0 = .ok (.aload_n 0, 1) := by decide +kernel
theorem dX12_records_1 : decode cX12_records 1 = .ok (.getfield 291, 3) := by decide +kernel
theorem dX12_records_4 : decode cX12_records 4 = .ok (.bipush 40, 2) := by decide +kernel
theorem dX12_records_6 : decode cX12_records 6 = .ok (.if_icmp .ne 43, 3) := by decide +kernel
theorem dX12_records_9 : decode cX12_records 9 = .ok (.iconst 0, 1) := by decide +kernel
theorem dX12_records_10 : decode cX12_records 10 = .ok (.istore_n 1, 1) := by decide +kernel
theorem dX12_records_11 : decode cX12_records 11 = .ok (.iload_n 1, 1) := by decide +kernel
theorem dX12_records_12 : decode cX12_records 12 = .ok (.sipush 1833, 3) := by decide +kernel
theorem dX12_records_15 : decode cX12_records 15 = .ok (.if_icmp .ge 24, 3) := by decide +kernel
theorem dX12_records_18 : decode cX12_records 18 = .ok (.aload_n 0, 1) := by decide +kernel
theorem dX12_records_19 : decode cX12_records 19 = .ok (.getfield 182, 3) := by decide +kernel
theorem dX12_records_22 : decode cX12_records 22 = .ok (.iload_n 1, 1) := by decide +kernel
theorem dX12_records_23 : decode cX12_records 23 = .ok (.aload_n 0, 1) := by decide +kernel
theorem dX12_records_24 : decode cX12_records 24 = .ok (.getfield 182, 3) := by decide +kernel
theorem dX12_records_27 : decode cX12_records 27 = .ok (.iload_n 1, 1) := by decide +kernel
theorem dX12_records_28 : decode cX12_records 28 = .ok (.bipush 47, 2) := by decide +kernel
theorem dX12_records_30 : decode cX12_records 30 = .ok (.iadd, 1) := by decide +kernel
theorem dX12_records_31 : decode cX12_records 31 = .ok (.iaload, 1) := by decide +kernel
theorem dX12_records_32 : decode cX12_records 32 = .ok (.iastore, 1) := by decide +kernel
theorem dX12_records_33 : decode cX12_records 33 = .ok (.iinc 1 1, 3) := by decide +kernel
theorem dX12_records_36 : decode cX12_records 36 = .ok (.goto (-25), 3) := by decide +kernel
theorem dX12_records_39 : decode cX12_records 39 = .ok (.aload_n 0, 1) := by decide +kernel
theorem dX12_records_40 : decode cX12_records 40 = .ok (.dup, 1) := by decide +kernel
theorem dX12_records_41 : decode cX12_records 41 = .ok (.getfield 291, 3) := by decide +kernel
theorem dX12_records_44 : decode cX12_records 44 = .ok (.iconst 1, 1) := by decide +kernel
theorem dX12_records_45 : decode cX12_records 45 = .ok (.isub, 1) := by decide +kernel
theorem dX12_records_46 : decode cX12_records 46 = .ok (.putfield 291, 3) := by decide +kernel
theorem dX12_records_49 : decode cX12_records 49 = .ok (.iconst 0, 1) := by decide +kernel
theorem dX12_records_50 : decode cX12_records 50 = .ok (.istore_n 1, 1) := by decide +kernel
theorem dX12_records_51 : decode cX12_records 51 = .ok (.iload_n 1, 1) := by decide +kernel
theorem dX12_records_52 : decode cX12_records 52 = .ok (.bipush 47, 2) := by decide +kernel
theorem dX12_records_54 : decode cX12_records 54 = .ok (.if_icmp .ge 29, 3) := by decide +kernel
theorem dX12_records_57 : decode cX12_records 57 = .ok (.aload_n 0, 1) := by decide +kernel
theorem dX12_records_58 : decode cX12_records 58 = .ok (.getfield 182, 3) := by decide +kernel
theorem dX12_records_61 : decode cX12_records 61 = .ok (.bipush 47, 2) := by decide +kernel
theorem dX12_records_63 : decode cX12_records 63 = .ok (.aload_n 0, 1) := by decide +kernel
theorem dX12_records_64 : decode cX12_records 64 = .ok (.getfield 291, 3) := by decide +kernel
theorem dX12_records_67 : decode cX12_records 67 = .ok (.imul, 1) := by decide +kernel
theorem dX12_records_68 : decode cX12_records 68 = .ok (.iload_n 1, 1) := by decide +kernel
theorem dX12_records_69 : decode cX12_records 69 = .ok (.iadd, 1) := by decide +kernel
theorem dX12_records_70 : decode cX12_records 70 = .ok (.aload_n 0, 1) := by decide +kernel
theorem dX12_records_71 : decode cX12_records 71 = .ok (.getfield 85, 3) := by decide +kernel
theorem dX12_records_74 : decode cX12_records 74 = .ok (.iload_n 1, 1) := by decide +kernel
theorem dX12_records_75 : decode cX12_records 75 = .ok (.iaload, 1) := by decide +kernel
theorem dX12_records_76 : decode cX12_records 76 = .ok (.iastore, 1) := by decide +kernel
theorem dX12_records_77 : decode cX12_records 77 = .ok (.iinc 1 1, 3) := by decide +kernel
theorem dX12_records_80 : decode cX12_records 80 = .ok (.goto (-29), 3) := by decide +kernel
theorem dX12_records_83 : decode cX12_records 83 = .ok (.aload_n 0, 1) := by decide +kernel
theorem dX12_records_84 : decode cX12_records 84 = .ok (.dup, 1) := by decide +kernel
theorem dX12_records_85 : decode cX12_records 85 = .ok (.getfield 291, 3) := by decide +kernel
theorem dX12_records_88 : decode cX12_records 88 = .ok (.iconst 1, 1) := by decide +kernel
theorem dX12_records_89 : decode cX12_records 89 = .ok (.iadd, 1) := by decide +kernel
theorem dX12_records_90 : decode cX12_records 90 = .ok (.putfield 291, 3) := by decide +kernel
theorem dX12_records_93 : decode cX12_records 93 = .ok (.aload_n 0, 1) := by decide +kernel
theorem dX12_records_94 : decode cX12_records 94 = .ok (.invokevirtual 205, 3) := by decide +kernel
theorem dX12_records_97 : decode cX12_records 97 = .ok (.aload_n 0, 1) := by decide +kernel
theorem dX12_records_98 : decode cX12_records 98 = .ok (.iconst 0, 1) := by decide +kernel
theorem dX12_records_99 : decode cX12_records 99 = .ok (.putfield 287, 3) := by decide +kernel
theorem dX12_records_102 : decode cX12_records 102 = .ok (.return_, 1) := by decide +kernel
def fX12_records_51 : Nat → Int → Int → V_ → Option (Int × V_)
  | 0, _, _, _ => none
  | n + 1, x0, x1, v =>
    if 47 ≤ x1 then (
      lt_ (up_ v x0 77 (wr_ ((v x0 77) + 1))) fun v3 =>
      bd_ (fX12_keepsRow x0 v3) fun q4 =>
      lt_ (up_ q4.2 x0 69 0) fun v5 =>
      some (0, v5))
    else (
      ck_ (0 ≤ x1 ∧ x1 < 47) (
      ck_ (0 ≤ wr_ ((wr_ (47 * (v x0 77))) + x1) ∧ wr_ ((wr_ (47 * (v x0 77))) + x1) < 1880) (
      lt_ (up_ v (x0 + 55) (wr_ ((wr_ (47 * (v x0 77))) + x1)) (v (x0 + 23) x1)) fun v10 =>
      lt_ (wr_ (x1 + 1)) fun y11 =>
      (fX12_records_51 n) x0 y11 v10)))
def fX12_records_11 : Nat → Int → Int → V_ → Option (Int × V_)
  | 0, _, _, _ => none
  | n + 1, x0, x1, v =>
    if 1833 ≤ x1 then (
      lt_ (up_ v x0 77 (wr_ ((v x0 77) - 1))) fun v13 =>
      fX12_records_51 fu_ x0 0 v13)
    else (
      ck_ (0 ≤ wr_ (x1 + 47) ∧ wr_ (x1 + 47) < 1880) (
      ck_ (0 ≤ x1 ∧ x1 < 1880) (
      lt_ (up_ v (x0 + 55) x1 (v (x0 + 55) (wr_ (x1 + 47)))) fun v18 =>
      lt_ (wr_ (x1 + 1)) fun y19 =>
      (fX12_records_11 n) x0 y19 v18)))
def fX12_records (x0 : Int) (v : V_) : Option (Int × V_) :=
  if (v x0 77) = 40 then (
    fX12_records_11 fu_ x0 0 v)
  else (
    fX12_records_51 fu_ x0 0 v)
section
variable {E : En_} {p : Program} {l : Launch} {e : Env} {s : State} {m : MethodId} {args : Array Value} {below : List Frame} {meth : Method} {c : Code} {sz : Int}
theorem tX12_records_51 (C : MC_ E p s m c cX12_records 2 RX12) (hr : meth.sig.returnType = (none : Option FieldType)) (hlk : meth.locks = false) (hC : Cl_ E.2.2.2.2.2 sz) {out : Int × V_} : ∀ (n : Nat) (x0 x1 : Int) (v : V_), (E.2.2.2.2.2 x0 ∧ ty_ x0 = 12 ∧ ln_ x0 = 0) → fX12_records_51 n x0 x1 v = some out → G_ E p l e (rm_ 1 21) s m args below meth c 2 sz (Q_ E below args s sz sz 9 out.1 out.2) 51 [(0, (2, x0)), (1, (0, x1))] [] v sz := by
  intro n
  induction n with
  | zero =>
    intro x0 x1 v T0 h
    cases h
  | succ n H_51 =>
    intro x0 x1 v T0 h
    rw [fX12_records_51] at h
    refine g_iload_n C (f := 1) dX12_records_51 1 rfl ?_
    refine g_bipush C (n := 47) dX12_records_52 (by decide) ?_
    refine g_icmp_ge C 83 dX12_records_54 rfl (fun c2 => ?_) (fun c2 => ?_)
    · replace h := if_t h c2
      refine g_aload_n C (f := 0) dX12_records_83 0 rfl ?_
      refine g_dup C (Nat.ne_of_beq_eq_false rfl) dX12_records_84 ?_
      refine g_getf C (k := 77) (kd := 0) okX12 (by decide) kf_RX12_291 dX12_records_85 (rg_ hC T0.1) T0.2.1 rfl ?_
      refine g_iconst C (n := 1) dX12_records_88 (by decide) ?_
      refine g_iadd C dX12_records_89 ?_
      obtain ⟨v3, ev3, h⟩ := lt_e h
      refine g_putf C (k := 77) (kd := 0) okX12 (by decide) kf_RX12_291 dX12_records_90 (rg_ hC T0.1) T0.2.1 rfl rfl nvI (Or.inl rfl) v3 ev3 ?_
      refine g_aload_n C (f := 0) dX12_records_93 0 rfl ?_
      obtain ⟨q4, eq4, h⟩ := bd_e h
      refine g_cV C [] (cX12_keepsRow_ok l hC T0 eq4) okX12 T0.2.1 (rg_ hC T0.1) km_RX12_205 cv_X12_keepsRow rfl (by decide) rfl rfl (Nat.le_of_ble_eq_true rfl) dX12_records_94 ?_
      refine g_aload_n C (f := 0) dX12_records_97 0 rfl ?_
      refine g_iconst C (n := 0) dX12_records_98 (by decide) ?_
      obtain ⟨v5, ev5, h⟩ := lt_e h
      refine g_putf C (k := 69) (kd := 0) okX12 (by decide) kf_RX12_287 dX12_records_99 (rg_ hC T0.1) T0.2.1 rfl rfl (nvZ (Or.inl rfl)) (Or.inl rfl) v5 ev5 ?_
      cases h
      exact g_vret C dX12_records_102 hr hlk
    · replace h := if_f h c2
      refine g_aload_n C (f := 0) dX12_records_57 0 rfl ?_
      have F6 := fX12_78 hC T0.1 T0.2.1
      refine g_getR C (k := 78) (o := 55) okX12 (by decide) kf_RX12_182 dX12_records_58 hC T0.1 T0.2.1 rfl rfl ?_
      refine g_bipush C (n := 47) dX12_records_61 (by decide) ?_
      refine g_aload_n C (f := 0) dX12_records_63 0 rfl ?_
      refine g_getf C (k := 77) (kd := 0) okX12 (by decide) kf_RX12_291 dX12_records_64 (rg_ hC T0.1) T0.2.1 rfl ?_
      refine g_imul C dX12_records_67 ?_
      refine g_iload_n C (f := 1) dX12_records_68 1 rfl ?_
      refine g_iadd C dX12_records_69 ?_
      refine g_aload_n C (f := 0) dX12_records_70 0 rfl ?_
      have F7 := fX12_36 hC T0.1 T0.2.1
      refine g_getR C (k := 36) (o := 23) okX12 (by decide) kf_RX12_85 dX12_records_71 hC T0.1 T0.2.1 rfl rfl ?_
      refine g_iload_n C (f := 1) dX12_records_74 1 rfl ?_
      obtain ⟨c8, h⟩ := ck_e h
      refine g_iald C 47 dX12_records_75 (rg_ hC F7.1) F7.2.1 F7.2.2 c8 ?_
      obtain ⟨c9, h⟩ := ck_e h
      obtain ⟨v10, ev10, h⟩ := lt_e h
      refine g_iast C 1880 dX12_records_76 (rg_ hC F6.1) F6.2.1 F6.2.2 c9 v10 ev10 ?_
      obtain ⟨y11, ey11, h⟩ := lt_e h
      refine g_iincx C (ls' := [(1, (0, y11)), (0, (2, x0))]) ey11 dX12_records_77 1 rfl (by decide) (by decide) rfl ?_
      refine g_goto C 51 dX12_records_80 rfl ?_
      refine g_sub [1, 0] rfl rfl ?_
      exact H_51 _ _ _ T0 h
theorem tX12_records_11 (C : MC_ E p s m c cX12_records 2 RX12) (hr : meth.sig.returnType = (none : Option FieldType)) (hlk : meth.locks = false) (hC : Cl_ E.2.2.2.2.2 sz) {out : Int × V_} : ∀ (n : Nat) (x0 x1 : Int) (v : V_), (E.2.2.2.2.2 x0 ∧ ty_ x0 = 12 ∧ ln_ x0 = 0) → fX12_records_11 n x0 x1 v = some out → G_ E p l e (rm_ 1 21) s m args below meth c 2 sz (Q_ E below args s sz sz 9 out.1 out.2) 11 [(0, (2, x0)), (1, (0, x1))] [] v sz := by
  intro n
  induction n with
  | zero =>
    intro x0 x1 v T0 h
    cases h
  | succ n H_11 =>
    intro x0 x1 v T0 h
    rw [fX12_records_11] at h
    refine g_iload_n C (f := 1) dX12_records_11 1 rfl ?_
    refine g_sipush C (n := 1833) dX12_records_12 (by decide) ?_
    refine g_icmp_ge C 39 dX12_records_15 rfl (fun c12 => ?_) (fun c12 => ?_)
    · replace h := if_t h c12
      refine g_aload_n C (f := 0) dX12_records_39 0 rfl ?_
      refine g_dup C (Nat.ne_of_beq_eq_false rfl) dX12_records_40 ?_
      refine g_getf C (k := 77) (kd := 0) okX12 (by decide) kf_RX12_291 dX12_records_41 (rg_ hC T0.1) T0.2.1 rfl ?_
      refine g_iconst C (n := 1) dX12_records_44 (by decide) ?_
      refine g_isub C dX12_records_45 ?_
      obtain ⟨v13, ev13, h⟩ := lt_e h
      refine g_putf C (k := 77) (kd := 0) okX12 (by decide) kf_RX12_291 dX12_records_46 (rg_ hC T0.1) T0.2.1 rfl rfl nvI (Or.inl rfl) v13 ev13 ?_
      refine g_iconst C (n := 0) dX12_records_49 (by decide) ?_
      refine g_istore_n C (f := 1) (ls' := [(1, (0, 0)), (0, (2, x0))]) dX12_records_50 (by decide) rfl ?_
      refine g_sub [1, 0] rfl rfl ?_
      exact tX12_records_51 C hr hlk hC _ _ _ _ T0 h
    · replace h := if_f h c12
      refine g_aload_n C (f := 0) dX12_records_18 0 rfl ?_
      have F14 := fX12_78 hC T0.1 T0.2.1
      refine g_getR C (k := 78) (o := 55) okX12 (by decide) kf_RX12_182 dX12_records_19 hC T0.1 T0.2.1 rfl rfl ?_
      refine g_iload_n C (f := 1) dX12_records_22 1 rfl ?_
      refine g_aload_n C (f := 0) dX12_records_23 0 rfl ?_
      have F15 := fX12_78 hC T0.1 T0.2.1
      refine g_getR C (k := 78) (o := 55) okX12 (by decide) kf_RX12_182 dX12_records_24 hC T0.1 T0.2.1 rfl rfl ?_
      refine g_iload_n C (f := 1) dX12_records_27 1 rfl ?_
      refine g_bipush C (n := 47) dX12_records_28 (by decide) ?_
      refine g_iadd C dX12_records_30 ?_
      obtain ⟨c16, h⟩ := ck_e h
      refine g_iald C 1880 dX12_records_31 (rg_ hC F15.1) F15.2.1 F15.2.2 c16 ?_
      obtain ⟨c17, h⟩ := ck_e h
      obtain ⟨v18, ev18, h⟩ := lt_e h
      refine g_iast C 1880 dX12_records_32 (rg_ hC F14.1) F14.2.1 F14.2.2 c17 v18 ev18 ?_
      obtain ⟨y19, ey19, h⟩ := lt_e h
      refine g_iincx C (ls' := [(1, (0, y19)), (0, (2, x0))]) ey19 dX12_records_33 1 rfl (by decide) (by decide) rfl ?_
      refine g_goto C 11 dX12_records_36 rfl ?_
      refine g_sub [1, 0] rfl rfl ?_
      exact H_11 _ _ _ T0 h
end
theorem cX12_records_ok (l : Launch) {E : En_} {sz : Int} (hC : Cl_ E.2.2.2.2.2 sz) {x0 : Int} {v : V_} {out : Int × V_} (T0 : (E.2.2.2.2.2 x0 ∧ ty_ x0 = 12 ∧ ln_ x0 = 0)) (h : fX12_records x0 v = some out) : Met l yX12_records [.code yX12_records cX12_records 2 (none : Option FieldType)] (rm_ 1 21) (Pc_ E sz v [(2, x0)]) (Qc_ E sz 9 out.1 out.2) 0 0 (fun q => E.1 < q) := by
  refine met_G0 RX12 (by decide +kernel) rfl (Nat.le_of_ble_eq_true rfl) ?_
  intro p e s m args below meth c C hr hlk
  rw [fX12_records] at h
  refine g_aload_n C (f := 0) dX12_records_0 0 rfl ?_
  refine g_getf C (k := 77) (kd := 0) okX12 (by decide) kf_RX12_291 dX12_records_1 (rg_ hC T0.1) T0.2.1 rfl ?_
  refine g_bipush C (n := 40) dX12_records_4 (by decide) ?_
  refine g_icmp_ne C 49 dX12_records_6 rfl (fun c1 => ?_) (fun c1 => ?_)
  · replace h := if_f h c1
    refine g_iconst C (n := 0) dX12_records_49 (by decide) ?_
    refine g_istore_n C (f := 1) (ls' := [(1, (0, 0)), (0, (2, x0))]) dX12_records_50 (by decide) rfl ?_
    refine g_sub [1, 0] rfl rfl ?_
    exact tX12_records_51 C hr hlk hC _ _ _ _ T0 h
  · replace h := if_t h c1
    refine g_iconst C (n := 0) dX12_records_9 (by decide) ?_
    refine g_istore_n C (f := 1) (ls' := [(1, (0, 0)), (0, (2, x0))]) dX12_records_10 (by decide) rfl ?_
    refine g_sub [1, 0] rfl rfl ?_
    exact tX12_records_11 C hr hlk hC _ _ _ _ T0 h
theorem dX12_becomes_0 : decode cX12_becomes 0 = .ok (.aload_n 0, 1) := by decide +kernel
theorem dX12_becomes_1 : decode cX12_becomes 1 = .ok (.getfield 85, 3) := by decide +kernel
theorem dX12_becomes_4 : decode cX12_becomes 4 = .ok (.iload_n 1, 1) := by decide +kernel
theorem dX12_becomes_5 : decode cX12_becomes 5 = .ok (.iaload, 1) := by decide +kernel
theorem dX12_becomes_6 : decode cX12_becomes 6 = .ok (.iload_n 2, 1) := by decide +kernel
theorem dX12_becomes_7 : decode cX12_becomes 7 = .ok (.if_icmp .ne 5, 3) := by decide +kernel
theorem dX12_becomes_10 : decode cX12_becomes 10 = .ok (.iconst 0, 1) := by decide +kernel
theorem dX12_becomes_11 : decode cX12_becomes 11 = .ok (.ireturn, 1) := by decide +kernel
theorem dX12_becomes_12 : decode cX12_becomes 12 = .ok (.aload_n 0, 1) := by decide +kernel
theorem dX12_becomes_13 : decode cX12_becomes 13 = .ok (.invokevirtual 476, 3) := by decide +kernel
theorem dX12_becomes_16 : decode cX12_becomes 16 = .ok (.aload_n 0, 1) := by decide +kernel
theorem dX12_becomes_17 : decode cX12_becomes 17 = .ok (.getfield 88, 3) := by decide +kernel
theorem dX12_becomes_20 : decode cX12_becomes 20 = .ok (.iload_n 1, 1) := by decide +kernel
theorem dX12_becomes_21 : decode cX12_becomes 21 = .ok (.iload_n 2, 1) := by decide +kernel
theorem dX12_becomes_22 : decode cX12_becomes 22 = .ok (.iastore, 1) := by decide +kernel
theorem dX12_becomes_23 : decode cX12_becomes 23 = .ok (.aload_n 0, 1) := by decide +kernel
theorem dX12_becomes_24 : decode cX12_becomes 24 = .ok (.invokevirtual 548, 3) := by decide +kernel
theorem dX12_becomes_27 : decode cX12_becomes 27 = .ok (.iconst 1, 1) := by decide +kernel
theorem dX12_becomes_28 : decode cX12_becomes 28 = .ok (.ireturn, 1) := by decide +kernel
def fX12_becomes (x0 x1 x2 : Int) (v : V_) : Option (Int × V_) :=
  ck_ (0 ≤ x1 ∧ x1 < 47) (
  if (v (x0 + 23) x1) = x2 then (
    some (0, v))
  else (
    bd_ (fX12_copies x0 v) fun q4 =>
    ck_ (0 ≤ x1 ∧ x1 < 47) (
    lt_ (up_ q4.2 (x0 + 24) x1 x2) fun v7 =>
    bd_ (fX12_records x0 v7) fun q8 =>
    some (1, q8.2))))
theorem cX12_becomes_ok (l : Launch) {E : En_} {sz : Int} (hC : Cl_ E.2.2.2.2.2 sz) {x0 x1 x2 : Int} {v : V_} {out : Int × V_} (T0 : (E.2.2.2.2.2 x0 ∧ ty_ x0 = 12 ∧ ln_ x0 = 0)) (h : fX12_becomes x0 x1 x2 v = some out) : Met l yX12_becomes [.code yX12_becomes cX12_becomes 3 (some FieldType.boolean)] (rm_ 2 42) (Pc_ E sz v [(2, x0), (0, x1), (0, x2)]) (Qc_ E sz 0 out.1 out.2) 0 0 (fun q => E.1 < q) := by
  refine met_G0 RX12 (by decide +kernel) rfl (Nat.le_of_ble_eq_true rfl) ?_
  intro p e s m args below meth c C hr hlk
  rw [fX12_becomes] at h
  refine g_aload_n C (f := 0) dX12_becomes_0 0 rfl ?_
  have F1 := fX12_36 hC T0.1 T0.2.1
  refine g_getR C (k := 36) (o := 23) okX12 (by decide) kf_RX12_85 dX12_becomes_1 hC T0.1 T0.2.1 rfl rfl ?_
  refine g_iload_n C (f := 1) dX12_becomes_4 1 rfl ?_
  obtain ⟨c2, h⟩ := ck_e h
  refine g_iald C 47 dX12_becomes_5 (rg_ hC F1.1) F1.2.1 F1.2.2 c2 ?_
  refine g_iload_n C (f := 2) dX12_becomes_6 2 rfl ?_
  refine g_icmp_ne C 12 dX12_becomes_7 rfl (fun c3 => ?_) (fun c3 => ?_)
  · replace h := if_f h c3
    refine g_aload_n C (f := 0) dX12_becomes_12 0 rfl ?_
    obtain ⟨q4, eq4, h⟩ := bd_e h
    refine g_cV C [] (cX12_copies_ok l hC T0 eq4) okX12 T0.2.1 (rg_ hC T0.1) km_RX12_476 cv_X12_copies rfl (by decide) rfl rfl (Nat.le_of_ble_eq_true rfl) dX12_becomes_13 ?_
    refine g_aload_n C (f := 0) dX12_becomes_16 0 rfl ?_
    have F5 := fX12_37 hC T0.1 T0.2.1
    refine g_getR C (k := 37) (o := 24) okX12 (by decide) kf_RX12_88 dX12_becomes_17 hC T0.1 T0.2.1 rfl rfl ?_
    refine g_iload_n C (f := 1) dX12_becomes_20 1 rfl ?_
    refine g_iload_n C (f := 2) dX12_becomes_21 2 rfl ?_
    obtain ⟨c6, h⟩ := ck_e h
    obtain ⟨v7, ev7, h⟩ := lt_e h
    refine g_iast C 47 dX12_becomes_22 (rg_ hC F5.1) F5.2.1 F5.2.2 c6 v7 ev7 ?_
    refine g_aload_n C (f := 0) dX12_becomes_23 0 rfl ?_
    obtain ⟨q8, eq8, h⟩ := bd_e h
    refine g_cV C [] (cX12_records_ok l hC T0 eq8) okX12 T0.2.1 (rg_ hC T0.1) km_RX12_548 cv_X12_records rfl (by decide) rfl rfl (Nat.le_of_ble_eq_true rfl) dX12_becomes_24 ?_
    refine g_iconst C (n := 1) dX12_becomes_27 (by decide) ?_
    cases h
    exact g_zret C dX12_becomes_28 hr hlk (Or.inr rfl)
  · replace h := if_t h c3
    refine g_iconst C (n := 0) dX12_becomes_10 (by decide) ?_
    cases h
    exact g_zret C dX12_becomes_11 hr hlk (Or.inl rfl)
theorem dX12_begins_0 : decode cX12_begins 0 = .ok (.iconst 0, 1) := by decide +kernel
theorem dX12_begins_1 : decode cX12_begins 1 = .ok (.istore_n 1, 1) := by decide +kernel
theorem dX12_begins_2 : decode cX12_begins 2 = .ok (.iload_n 1, 1) := by decide +kernel
theorem dX12_begins_3 : decode cX12_begins 3 = .ok (.bipush 47, 2) := by decide +kernel
theorem dX12_begins_5 : decode cX12_begins 5 = .ok (.if_icmp .ge 16, 3) := by decide +kernel
theorem dX12_begins_8 : decode cX12_begins 8 = .ok (.aload_n 0, 1) := by decide +kernel
theorem dX12_begins_9 : decode cX12_begins 9 = .ok (.getfield 88, 3) := by decide +kernel
theorem dX12_begins_12 : decode cX12_begins 12 = .ok (.iload_n 1, 1) := by decide +kernel
theorem dX12_begins_13 : decode cX12_begins 13 = .ok (.iconst 0, 1) := by decide +kernel
theorem dX12_begins_14 : decode cX12_begins 14 = .ok (.iastore, 1) := by decide +kernel
theorem dX12_begins_15 : decode cX12_begins 15 = .ok (.iinc 1 1, 3) := by decide +kernel
theorem dX12_begins_18 : decode cX12_begins 18 = .ok (.goto (-16), 3) := by decide +kernel
theorem dX12_begins_21 : decode cX12_begins 21 = .ok (.aload_n 0, 1) := by decide +kernel
theorem dX12_begins_22 : decode cX12_begins 22 = .ok (.getfield 88, 3) := by decide +kernel
theorem dX12_begins_25 : decode cX12_begins 25 = .ok (.bipush 38, 2) := by decide +kernel
theorem dX12_begins_27 : decode cX12_begins 27 = .ok (.iconst 1, 1) := by decide +kernel
theorem dX12_begins_28 : decode cX12_begins 28 = .ok (.iastore, 1) := by decide +kernel
theorem dX12_begins_29 : decode cX12_begins 29 = .ok (.iconst 0, 1) := by decide +kernel
theorem dX12_begins_30 : decode cX12_begins 30 = .ok (.istore_n 1, 1) := by decide +kernel
theorem dX12_begins_31 : decode cX12_begins 31 = .ok (.iload_n 1, 1) := by decide +kernel
theorem dX12_begins_32 : decode cX12_begins 32 = .ok (.iconst 4, 1) := by decide +kernel
theorem dX12_begins_33 : decode cX12_begins 33 = .ok (.if_icmp .ge 53, 3) := by decide +kernel
theorem dX12_begins_36 : decode cX12_begins 36 = .ok (.aload_n 0, 1) := by decide +kernel
theorem dX12_begins_37 : decode cX12_begins 37 = .ok (.getfield 88, 3) := by decide +kernel
theorem dX12_begins_40 : decode cX12_begins 40 = .ok (.bipush 39, 2) := by decide +kernel
theorem dX12_begins_42 : decode cX12_begins 42 = .ok (.iload_n 1, 1) := by decide +kernel
theorem dX12_begins_43 : decode cX12_begins 43 = .ok (.iadd, 1) := by decide +kernel
theorem dX12_begins_44 : decode cX12_begins 44 = .ok (.aload_n 0, 1) := by decide +kernel
theorem dX12_begins_45 : decode cX12_begins 45 = .ok (.getfield 46, 3) := by decide +kernel
theorem dX12_begins_48 : decode cX12_begins 48 = .ok (.iconst 4, 1) := by decide +kernel
theorem dX12_begins_49 : decode cX12_begins 49 = .ok (.aload_n 0, 1) := by decide +kernel
theorem dX12_begins_50 : decode cX12_begins 50 = .ok (.getfield 272, 3) := by decide +kernel
theorem dX12_begins_53 : decode cX12_begins 53 = .ok (.imul, 1) := by decide +kernel
theorem dX12_begins_54 : decode cX12_begins 54 = .ok (.iload_n 1, 1) := by decide +kernel
theorem dX12_begins_55 : decode cX12_begins 55 = .ok (.iadd, 1) := by decide +kernel
theorem dX12_begins_56 : decode cX12_begins 56 = .ok (.iaload, 1) := by decide +kernel
theorem dX12_begins_57 : decode cX12_begins 57 = .ok (.iastore, 1) := by decide +kernel
theorem dX12_begins_58 : decode cX12_begins 58 = .ok (.aload_n 0, 1) := by decide +kernel
theorem dX12_begins_59 : decode cX12_begins 59 = .ok (.getfield 88, 3) := by decide +kernel
theorem dX12_begins_62 : decode cX12_begins 62 = .ok (.bipush 43, 2) := by decide +kernel
theorem dX12_begins_64 : decode cX12_begins 64 = .ok (.iload_n 1, 1) := by decide +kernel
theorem dX12_begins_65 : decode cX12_begins 65 = .ok (.iadd, 1) := by decide +kernel
theorem dX12_begins_66 : decode cX12_begins 66 = .ok (.aload_n 0, 1) := by decide +kernel
theorem dX12_begins_67 : decode cX12_begins 67 = .ok (.getfield 49, 3) := by decide +kernel
theorem dX12_begins_70 : decode cX12_begins 70 = .ok (.iconst 4, 1) := by decide +kernel
theorem dX12_begins_71 : decode cX12_begins 71 = .ok (.aload_n 0, 1) := by decide +kernel
theorem dX12_begins_72 : decode cX12_begins 72 = .ok (.getfield 272, 3) := by decide +kernel
theorem dX12_begins_75 : decode cX12_begins 75 = .ok (.imul, 1) := by decide +kernel
theorem dX12_begins_76 : decode cX12_begins 76 = .ok (.iload_n 1, 1) := by decide +kernel
theorem dX12_begins_77 : decode cX12_begins 77 = .ok (.iadd, 1) := by decide +kernel
theorem dX12_begins_78 : decode cX12_begins 78 = .ok (.iaload, 1) := by decide +kernel
theorem dX12_begins_79 : decode cX12_begins 79 = .ok (.iastore, 1) := by decide +kernel
theorem dX12_begins_80 : decode cX12_begins 80 = .ok (.iinc 1 1, 3) := by decide +kernel
theorem dX12_begins_83 : decode cX12_begins 83 = .ok (.goto (-52), 3) := by decide +kernel
theorem dX12_begins_86 : decode cX12_begins 86 = .ok (.return_, 1) := by decide +kernel
def fX12_begins_31 : Nat → Int → Int → V_ → Option (Int × V_)
  | 0, _, _, _ => none
  | n + 1, x0, x1, v =>
    if 4 ≤ x1 then (
      some (0, v))
    else (
      ck_ (0 ≤ wr_ ((wr_ (4 * (v x0 18))) + x1) ∧ wr_ ((wr_ (4 * (v x0 18))) + x1) < 8) (
      ck_ (0 ≤ wr_ (39 + x1) ∧ wr_ (39 + x1) < 47) (
      lt_ (up_ v (x0 + 24) (wr_ (39 + x1)) (v (x0 + 10) (wr_ ((wr_ (4 * (v x0 18))) + x1)))) fun v9 =>
      ck_ (0 ≤ wr_ ((wr_ (4 * (v9 x0 18))) + x1) ∧ wr_ ((wr_ (4 * (v9 x0 18))) + x1) < 8) (
      ck_ (0 ≤ wr_ (43 + x1) ∧ wr_ (43 + x1) < 47) (
      lt_ (up_ v9 (x0 + 24) (wr_ (43 + x1)) (v9 (x0 + 11) (wr_ ((wr_ (4 * (v9 x0 18))) + x1)))) fun v14 =>
      lt_ (wr_ (x1 + 1)) fun y15 =>
      (fX12_begins_31 n) x0 y15 v14)))))
def fX12_begins_2 : Nat → Int → Int → V_ → Option (Int × V_)
  | 0, _, _, _ => none
  | n + 1, x0, x1, v =>
    if 47 ≤ x1 then (
      lt_ (up_ v (x0 + 24) 38 1) fun v3 =>
      fX12_begins_31 fu_ x0 0 v3)
    else (
      ck_ (0 ≤ x1 ∧ x1 < 47) (
      lt_ (up_ v (x0 + 24) x1 0) fun v18 =>
      lt_ (wr_ (x1 + 1)) fun y19 =>
      (fX12_begins_2 n) x0 y19 v18))
def fX12_begins (x0 : Int) (v : V_) : Option (Int × V_) :=
  fX12_begins_2 fu_ x0 0 v
section
variable {E : En_} {p : Program} {l : Launch} {e : Env} {s : State} {m : MethodId} {args : Array Value} {below : List Frame} {meth : Method} {c : Code} {sz : Int}
theorem tX12_begins_31 (C : MC_ E p s m c cX12_begins 2 RX12) (hr : meth.sig.returnType = (none : Option FieldType)) (hlk : meth.locks = false) (hC : Cl_ E.2.2.2.2.2 sz) {out : Int × V_} : ∀ (n : Nat) (x0 x1 : Int) (v : V_), (E.2.2.2.2.2 x0 ∧ ty_ x0 = 12 ∧ ln_ x0 = 0) → fX12_begins_31 n x0 x1 v = some out → G_ E p l e (rm_ 0 0) s m args below meth c 2 sz (Q_ E below args s sz sz 9 out.1 out.2) 31 [(0, (2, x0)), (1, (0, x1))] [] v sz := by
  intro n
  induction n with
  | zero =>
    intro x0 x1 v T0 h
    cases h
  | succ n H_31 =>
    intro x0 x1 v T0 h
    rw [fX12_begins_31] at h
    refine g_iload_n C (f := 1) dX12_begins_31 1 rfl ?_
    refine g_iconst C (n := 4) dX12_begins_32 (by decide) ?_
    refine g_icmp_ge C 86 dX12_begins_33 rfl (fun c4 => ?_) (fun c4 => ?_)
    · replace h := if_t h c4
      cases h
      exact g_vret C dX12_begins_86 hr hlk
    · replace h := if_f h c4
      refine g_aload_n C (f := 0) dX12_begins_36 0 rfl ?_
      have F5 := fX12_37 hC T0.1 T0.2.1
      refine g_getR C (k := 37) (o := 24) okX12 (by decide) kf_RX12_88 dX12_begins_37 hC T0.1 T0.2.1 rfl rfl ?_
      refine g_bipush C (n := 39) dX12_begins_40 (by decide) ?_
      refine g_iload_n C (f := 1) dX12_begins_42 1 rfl ?_
      refine g_iadd C dX12_begins_43 ?_
      refine g_aload_n C (f := 0) dX12_begins_44 0 rfl ?_
      have F6 := fX12_23 hC T0.1 T0.2.1
      refine g_getR C (k := 23) (o := 10) okX12 (by decide) kf_RX12_46 dX12_begins_45 hC T0.1 T0.2.1 rfl rfl ?_
      refine g_iconst C (n := 4) dX12_begins_48 (by decide) ?_
      refine g_aload_n C (f := 0) dX12_begins_49 0 rfl ?_
      refine g_getf C (k := 18) (kd := 0) okX12 (by decide) kf_RX12_272 dX12_begins_50 (rg_ hC T0.1) T0.2.1 rfl ?_
      refine g_imul C dX12_begins_53 ?_
      refine g_iload_n C (f := 1) dX12_begins_54 1 rfl ?_
      refine g_iadd C dX12_begins_55 ?_
      obtain ⟨c7, h⟩ := ck_e h
      refine g_iald C 8 dX12_begins_56 (rg_ hC F6.1) F6.2.1 F6.2.2 c7 ?_
      obtain ⟨c8, h⟩ := ck_e h
      obtain ⟨v9, ev9, h⟩ := lt_e h
      refine g_iast C 47 dX12_begins_57 (rg_ hC F5.1) F5.2.1 F5.2.2 c8 v9 ev9 ?_
      refine g_aload_n C (f := 0) dX12_begins_58 0 rfl ?_
      have F10 := fX12_37 hC T0.1 T0.2.1
      refine g_getR C (k := 37) (o := 24) okX12 (by decide) kf_RX12_88 dX12_begins_59 hC T0.1 T0.2.1 rfl rfl ?_
      refine g_bipush C (n := 43) dX12_begins_62 (by decide) ?_
      refine g_iload_n C (f := 1) dX12_begins_64 1 rfl ?_
      refine g_iadd C dX12_begins_65 ?_
      refine g_aload_n C (f := 0) dX12_begins_66 0 rfl ?_
      have F11 := fX12_24 hC T0.1 T0.2.1
      refine g_getR C (k := 24) (o := 11) okX12 (by decide) kf_RX12_49 dX12_begins_67 hC T0.1 T0.2.1 rfl rfl ?_
      refine g_iconst C (n := 4) dX12_begins_70 (by decide) ?_
      refine g_aload_n C (f := 0) dX12_begins_71 0 rfl ?_
      refine g_getf C (k := 18) (kd := 0) okX12 (by decide) kf_RX12_272 dX12_begins_72 (rg_ hC T0.1) T0.2.1 rfl ?_
      refine g_imul C dX12_begins_75 ?_
      refine g_iload_n C (f := 1) dX12_begins_76 1 rfl ?_
      refine g_iadd C dX12_begins_77 ?_
      obtain ⟨c12, h⟩ := ck_e h
      refine g_iald C 8 dX12_begins_78 (rg_ hC F11.1) F11.2.1 F11.2.2 c12 ?_
      obtain ⟨c13, h⟩ := ck_e h
      obtain ⟨v14, ev14, h⟩ := lt_e h
      refine g_iast C 47 dX12_begins_79 (rg_ hC F10.1) F10.2.1 F10.2.2 c13 v14 ev14 ?_
      obtain ⟨y15, ey15, h⟩ := lt_e h
      refine g_iincx C (ls' := [(1, (0, y15)), (0, (2, x0))]) ey15 dX12_begins_80 1 rfl (by decide) (by decide) rfl ?_
      refine g_goto C 31 dX12_begins_83 rfl ?_
      refine g_sub [1, 0] rfl rfl ?_
      exact H_31 _ _ _ T0 h
theorem tX12_begins_2 (C : MC_ E p s m c cX12_begins 2 RX12) (hr : meth.sig.returnType = (none : Option FieldType)) (hlk : meth.locks = false) (hC : Cl_ E.2.2.2.2.2 sz) {out : Int × V_} : ∀ (n : Nat) (x0 x1 : Int) (v : V_), (E.2.2.2.2.2 x0 ∧ ty_ x0 = 12 ∧ ln_ x0 = 0) → fX12_begins_2 n x0 x1 v = some out → G_ E p l e (rm_ 0 0) s m args below meth c 2 sz (Q_ E below args s sz sz 9 out.1 out.2) 2 [(0, (2, x0)), (1, (0, x1))] [] v sz := by
  intro n
  induction n with
  | zero =>
    intro x0 x1 v T0 h
    cases h
  | succ n H_2 =>
    intro x0 x1 v T0 h
    rw [fX12_begins_2] at h
    refine g_iload_n C (f := 1) dX12_begins_2 1 rfl ?_
    refine g_bipush C (n := 47) dX12_begins_3 (by decide) ?_
    refine g_icmp_ge C 21 dX12_begins_5 rfl (fun c1 => ?_) (fun c1 => ?_)
    · replace h := if_t h c1
      refine g_aload_n C (f := 0) dX12_begins_21 0 rfl ?_
      have F2 := fX12_37 hC T0.1 T0.2.1
      refine g_getR C (k := 37) (o := 24) okX12 (by decide) kf_RX12_88 dX12_begins_22 hC T0.1 T0.2.1 rfl rfl ?_
      refine g_bipush C (n := 38) dX12_begins_25 (by decide) ?_
      refine g_iconst C (n := 1) dX12_begins_27 (by decide) ?_
      obtain ⟨v3, ev3, h⟩ := lt_e h
      refine g_iast C 47 dX12_begins_28 (rg_ hC F2.1) F2.2.1 F2.2.2 (by decide) v3 ev3 ?_
      refine g_iconst C (n := 0) dX12_begins_29 (by decide) ?_
      refine g_istore_n C (f := 1) (ls' := [(1, (0, 0)), (0, (2, x0))]) dX12_begins_30 (by decide) rfl ?_
      refine g_sub [1, 0] rfl rfl ?_
      exact tX12_begins_31 C hr hlk hC _ _ _ _ T0 h
    · replace h := if_f h c1
      refine g_aload_n C (f := 0) dX12_begins_8 0 rfl ?_
      have F16 := fX12_37 hC T0.1 T0.2.1
      refine g_getR C (k := 37) (o := 24) okX12 (by decide) kf_RX12_88 dX12_begins_9 hC T0.1 T0.2.1 rfl rfl ?_
      refine g_iload_n C (f := 1) dX12_begins_12 1 rfl ?_
      refine g_iconst C (n := 0) dX12_begins_13 (by decide) ?_
      obtain ⟨c17, h⟩ := ck_e h
      obtain ⟨v18, ev18, h⟩ := lt_e h
      refine g_iast C 47 dX12_begins_14 (rg_ hC F16.1) F16.2.1 F16.2.2 c17 v18 ev18 ?_
      obtain ⟨y19, ey19, h⟩ := lt_e h
      refine g_iincx C (ls' := [(1, (0, y19)), (0, (2, x0))]) ey19 dX12_begins_15 1 rfl (by decide) (by decide) rfl ?_
      refine g_goto C 2 dX12_begins_18 rfl ?_
      refine g_sub [1, 0] rfl rfl ?_
      exact H_2 _ _ _ T0 h
end
theorem cX12_begins_ok (l : Launch) {E : En_} {sz : Int} (hC : Cl_ E.2.2.2.2.2 sz) {x0 : Int} {v : V_} {out : Int × V_} (T0 : (E.2.2.2.2.2 x0 ∧ ty_ x0 = 12 ∧ ln_ x0 = 0)) (h : fX12_begins x0 v = some out) : Met l yX12_begins [.code yX12_begins cX12_begins 2 (none : Option FieldType)] (rm_ 0 0) (Pc_ E sz v [(2, x0)]) (Qc_ E sz 9 out.1 out.2) 0 0 (fun q => E.1 < q) := by
  refine met_G0 RX12 (by decide +kernel) rfl (Nat.le_of_ble_eq_true rfl) ?_
  intro p e s m args below meth c C hr hlk
  rw [fX12_begins] at h
  refine g_iconst C (n := 0) dX12_begins_0 (by decide) ?_
  refine g_istore_n C (f := 1) (ls' := [(1, (0, 0)), (0, (2, x0))]) dX12_begins_1 (by decide) rfl ?_
  refine g_sub [1, 0] rfl rfl ?_
  exact tX12_begins_2 C hr hlk hC _ _ _ _ T0 h
theorem dX12_begunAll_0 : decode cX12_begunAll 0 = .ok (.iconst 0, 1) := by decide +kernel
theorem dX12_begunAll_1 : decode cX12_begunAll 1 = .ok (.istore_n 1, 1) := by decide +kernel
theorem dX12_begunAll_2 : decode cX12_begunAll 2 = .ok (.iconst 0, 1) := by decide +kernel
theorem dX12_begunAll_3 : decode cX12_begunAll 3 = .ok (.istore_n 2, 1) := by decide +kernel
theorem dX12_begunAll_4 : decode cX12_begunAll 4 = .ok (.iload_n 2, 1) := by decide +kernel
theorem dX12_begunAll_5 : decode cX12_begunAll 5 = .ok (.bipush 8, 2) := by decide +kernel
theorem dX12_begunAll_7 : decode cX12_begunAll 7 = .ok (.if_icmp .ge 21, 3) := by decide +kernel
theorem dX12_begunAll_10 : decode cX12_begunAll 10 = .ok (.iload_n 1, 1) := by decide +kernel
theorem dX12_begunAll_11 : decode cX12_begunAll 11 = .ok (.aload_n 0, 1) := by decide +kernel
theorem dX12_begunAll_12 : decode cX12_begunAll 12 = .ok (.getfield 85, 3) := by decide +kernel
theorem dX12_begunAll_15 : decode cX12_begunAll 15 = .ok (.bipush 14, 2) := by decide +kernel
theorem dX12_begunAll_17 : decode cX12_begunAll 17 = .ok (.iload_n 2, 1) := by decide +kernel
theorem dX12_begunAll_18 : decode cX12_begunAll 18 = .ok (.iadd, 1) := by decide +kernel
theorem dX12_begunAll_19 : decode cX12_begunAll 19 = .ok (.iaload, 1) := by decide +kernel
theorem dX12_begunAll_20 : decode cX12_begunAll 20 = .ok (.iadd, 1) := by decide +kernel
theorem dX12_begunAll_21 : decode cX12_begunAll 21 = .ok (.istore_n 1, 1) := by decide +kernel
theorem dX12_begunAll_22 : decode cX12_begunAll 22 = .ok (.iinc 2 1, 3) := by decide +kernel
theorem dX12_begunAll_25 : decode cX12_begunAll 25 = .ok (.goto (-21), 3) := by decide +kernel
theorem dX12_begunAll_28 : decode cX12_begunAll 28 = .ok (.iload_n 1, 1) := by decide +kernel
theorem dX12_begunAll_29 : decode cX12_begunAll 29 = .ok (.ireturn, 1) := by decide +kernel
def fX12_begunAll_4 : Nat → Int → Int → Int → V_ → Option (Int × V_)
  | 0, _, _, _, _ => none
  | n + 1, x0, x1, x2, v =>
    if 8 ≤ x2 then (
      some (x1, v))
    else (
      ck_ (0 ≤ wr_ (14 + x2) ∧ wr_ (14 + x2) < 47) (
      lt_ (wr_ (x1 + (v (x0 + 23) (wr_ (14 + x2))))) fun y4 =>
      lt_ (wr_ (x2 + 1)) fun y5 =>
      (fX12_begunAll_4 n) x0 y4 y5 v))
def fX12_begunAll (x0 : Int) (v : V_) : Option (Int × V_) :=
  fX12_begunAll_4 fu_ x0 0 0 v
section
variable {E : En_} {p : Program} {l : Launch} {e : Env} {s : State} {m : MethodId} {args : Array Value} {below : List Frame} {meth : Method} {c : Code} {sz : Int}
theorem tX12_begunAll_4 (C : MC_ E p s m c cX12_begunAll 3 RX12) (hr : meth.sig.returnType = (some FieldType.int)) (hlk : meth.locks = false) (hC : Cl_ E.2.2.2.2.2 sz) {out : Int × V_} : ∀ (n : Nat) (x0 x1 x2 : Int) (v : V_), (E.2.2.2.2.2 x0 ∧ ty_ x0 = 12 ∧ ln_ x0 = 0) → fX12_begunAll_4 n x0 x1 x2 v = some out → G_ E p l e (rm_ 0 0) s m args below meth c 3 sz (Q_ E below args s sz sz 0 out.1 out.2) 4 [(0, (2, x0)), (1, (0, x1)), (2, (0, x2))] [] v sz := by
  intro n
  induction n with
  | zero =>
    intro x0 x1 x2 v T0 h
    cases h
  | succ n H_4 =>
    intro x0 x1 x2 v T0 h
    rw [fX12_begunAll_4] at h
    refine g_iload_n C (f := 2) dX12_begunAll_4 2 rfl ?_
    refine g_bipush C (n := 8) dX12_begunAll_5 (by decide) ?_
    refine g_icmp_ge C 28 dX12_begunAll_7 rfl (fun c1 => ?_) (fun c1 => ?_)
    · replace h := if_t h c1
      refine g_iload_n C (f := 1) dX12_begunAll_28 1 rfl ?_
      cases h
      exact g_iret C dX12_begunAll_29 hr hlk
    · replace h := if_f h c1
      refine g_iload_n C (f := 1) dX12_begunAll_10 1 rfl ?_
      refine g_aload_n C (f := 0) dX12_begunAll_11 0 rfl ?_
      have F2 := fX12_36 hC T0.1 T0.2.1
      refine g_getR C (k := 36) (o := 23) okX12 (by decide) kf_RX12_85 dX12_begunAll_12 hC T0.1 T0.2.1 rfl rfl ?_
      refine g_bipush C (n := 14) dX12_begunAll_15 (by decide) ?_
      refine g_iload_n C (f := 2) dX12_begunAll_17 2 rfl ?_
      refine g_iadd C dX12_begunAll_18 ?_
      obtain ⟨c3, h⟩ := ck_e h
      refine g_iald C 47 dX12_begunAll_19 (rg_ hC F2.1) F2.2.1 F2.2.2 c3 ?_
      refine g_iadd C dX12_begunAll_20 ?_
      obtain ⟨y4, ey4, h⟩ := lt_e h
      refine g_set C ey4 ?_
      refine g_istore_n C (f := 1) (ls' := [(1, (0, y4)), (0, (2, x0)), (2, (0, x2))]) dX12_begunAll_21 (by decide) rfl ?_
      obtain ⟨y5, ey5, h⟩ := lt_e h
      refine g_iincx C (ls' := [(2, (0, y5)), (1, (0, y4)), (0, (2, x0))]) ey5 dX12_begunAll_22 2 rfl (by decide) (by decide) rfl ?_
      refine g_goto C 4 dX12_begunAll_25 rfl ?_
      refine g_sub [2, 1, 0] rfl rfl ?_
      exact H_4 _ _ _ _ T0 h
end
theorem cX12_begunAll_ok (l : Launch) {E : En_} {sz : Int} (hC : Cl_ E.2.2.2.2.2 sz) {x0 : Int} {v : V_} {out : Int × V_} (T0 : (E.2.2.2.2.2 x0 ∧ ty_ x0 = 12 ∧ ln_ x0 = 0)) (h : fX12_begunAll x0 v = some out) : Met l yX12_begunAll [.code yX12_begunAll cX12_begunAll 3 (some FieldType.int)] (rm_ 0 0) (Pc_ E sz v [(2, x0)]) (Qc_ E sz 0 out.1 out.2) 0 0 (fun q => E.1 < q) := by
  refine met_G0 RX12 (by decide +kernel) rfl (Nat.le_of_ble_eq_true rfl) ?_
  intro p e s m args below meth c C hr hlk
  rw [fX12_begunAll] at h
  refine g_iconst C (n := 0) dX12_begunAll_0 (by decide) ?_
  refine g_istore_n C (f := 1) (ls' := [(1, (0, 0)), (0, (2, x0))]) dX12_begunAll_1 (by decide) rfl ?_
  refine g_iconst C (n := 0) dX12_begunAll_2 (by decide) ?_
  refine g_istore_n C (f := 2) (ls' := [(2, (0, 0)), (1, (0, 0)), (0, (2, x0))]) dX12_begunAll_3 (by decide) rfl ?_
  refine g_sub [2, 1, 0] rfl rfl ?_
  exact tX12_begunAll_4 C hr hlk hC _ _ _ _ _ T0 h
theorem dX12_isOtherwise_0 : decode cX12_isOtherwise 0 = .ok (.aload_n 0, 1) := by decide +kernel
theorem dX12_isOtherwise_1 : decode cX12_isOtherwise 1 = .ok (.getfield 112, 3) := by decide +kernel
theorem dX12_isOtherwise_4 : decode cX12_isOtherwise 4 = .ok (.iconst 4, 1) := by decide +kernel
theorem dX12_isOtherwise_5 : decode cX12_isOtherwise 5 = .ok (.aload_n 0, 1) := by decide +kernel
theorem dX12_isOtherwise_6 : decode cX12_isOtherwise 6 = .ok (.getfield 106, 3) := by decide +kernel
theorem dX12_isOtherwise_9 : decode cX12_isOtherwise 9 = .ok (.iload_n 1, 1) := by decide +kernel
theorem dX12_isOtherwise_10 : decode cX12_isOtherwise 10 = .ok (.iaload, 1) := by decide +kernel
theorem dX12_isOtherwise_11 : decode cX12_isOtherwise 11 = .ok (.imul, 1) := by decide +kernel
theorem dX12_isOtherwise_12 : decode cX12_isOtherwise 12 = .ok (.aload_n 0, 1) := by decide +kernel
theorem dX12_isOtherwise_13 : decode cX12_isOtherwise 13 = .ok (.getfield 109, 3) := by decide +kernel
theorem dX12_isOtherwise_16 : decode cX12_isOtherwise 16 = .ok (.iload_n 1, 1) := by decide +kernel
theorem dX12_isOtherwise_17 : decode cX12_isOtherwise 17 = .ok (.iaload, 1) := by decide +kernel
theorem dX12_isOtherwise_18 : decode cX12_isOtherwise 18 = .ok (.iadd, 1) := by decide +kernel
theorem dX12_isOtherwise_19 : decode cX12_isOtherwise 19 = .ok (.iconst 1, 1) := by decide +kernel
theorem dX12_isOtherwise_20 : decode cX12_isOtherwise 20 = .ok (.isub, 1) := by decide +kernel
theorem dX12_isOtherwise_21 : decode cX12_isOtherwise 21 = .ok (.iaload, 1) := by decide +kernel
theorem dX12_isOtherwise_22 : decode cX12_isOtherwise 22 = .ok (.istore_n 2, 1) := by decide +kernel
theorem dX12_isOtherwise_23 : decode cX12_isOtherwise 23 = .ok (.iconst 0, 1) := by decide +kernel
theorem dX12_isOtherwise_24 : decode cX12_isOtherwise 24 = .ok (.istore_n 3, 1) := by decide +kernel
theorem dX12_isOtherwise_25 : decode cX12_isOtherwise 25 = .ok (.iload_n 3, 1) := by decide +kernel
theorem dX12_isOtherwise_26 : decode cX12_isOtherwise 26 = .ok (.aload_n 0, 1) := by decide +kernel
theorem dX12_isOtherwise_27 : decode cX12_isOtherwise 27 = .ok (.getfield 43, 3) := by decide +kernel
theorem dX12_isOtherwise_30 : decode cX12_isOtherwise 30 = .ok (.aload_n 0, 1) := by decide +kernel
theorem dX12_isOtherwise_31 : decode cX12_isOtherwise 31 = .ok (.getfield 272, 3) := by decide +kernel
theorem dX12_isOtherwise_34 : decode cX12_isOtherwise 34 = .ok (.iaload, 1) := by decide +kernel
theorem dX12_isOtherwise_35 : decode cX12_isOtherwise 35 = .ok (.if_icmp .ge 46, 3) := by decide +kernel
theorem dX12_isOtherwise_38 : decode cX12_isOtherwise 38 = .ok (.iconst 0, 1) := by decide +kernel
theorem dX12_isOtherwise_39 : decode cX12_isOtherwise 39 = .ok (.istore 4, 2) := by decide +kernel
theorem dX12_isOtherwise_41 : decode cX12_isOtherwise 41 = .ok (.iload 4, 2) := by decide +kernel
theorem dX12_isOtherwise_43 : decode cX12_isOtherwise 43 = .ok (.aload_n 0, 1) := by decide +kernel
theorem dX12_isOtherwise_44 : decode cX12_isOtherwise 44 = .ok (.iload_n 3, 1) := by decide +kernel
theorem dX12_isOtherwise_45 : decode cX12_isOtherwise 45 = .ok (.invokevirtual 393, 3) := by decide +kernel
theorem dX12_isOtherwise_48 : decode cX12_isOtherwise 48 = .ok (.if_icmp .ge 27, 3) := by decide +kernel
theorem dX12_isOtherwise_51 : decode cX12_isOtherwise 51 = .ok (.iload_n 3, 1) := by decide +kernel
theorem dX12_isOtherwise_52 : decode cX12_isOtherwise 52 = .ok (.iload_n 2, 1) := by decide +kernel
theorem dX12_isOtherwise_53 : decode cX12_isOtherwise 53 = .ok (.if_icmp .eq 16, 3) := by decide +kernel
theorem dX12_isOtherwise_56 : decode cX12_isOtherwise 56 = .ok (.aload_n 0, 1) := by decide +kernel
theorem dX12_isOtherwise_57 : decode cX12_isOtherwise 57 = .ok (.iload_n 3, 1) := by decide +kernel
theorem dX12_isOtherwise_58 : decode cX12_isOtherwise 58 = .ok (.iload 4, 2) := by decide +kernel
theorem dX12_isOtherwise_60 : decode cX12_isOtherwise 60 = .ok (.invokevirtual 378, 3) := by decide +kernel
theorem dX12_isOtherwise_63 : decode cX12_isOtherwise 63 = .ok (.iload_n 1, 1) := by decide +kernel
theorem dX12_isOtherwise_64 : decode cX12_isOtherwise 64 = .ok (.if_icmp .ne 5, 3) := by decide +kernel
theorem dX12_isOtherwise_67 : decode cX12_isOtherwise 67 = .ok (.iconst 1, 1) := by decide +kernel
theorem dX12_isOtherwise_68 : decode cX12_isOtherwise 68 = .ok (.ireturn, 1) := by decide +kernel
theorem dX12_isOtherwise_69 : decode cX12_isOtherwise 69 = .ok (.iinc 4 1, 3) := by decide +kernel
theorem dX12_isOtherwise_72 : decode cX12_isOtherwise 72 = .ok (.goto (-31), 3) := by decide +kernel
theorem dX12_isOtherwise_75 : decode cX12_isOtherwise 75 = .ok (.iinc 3 1, 3) := by decide +kernel
theorem dX12_isOtherwise_78 : decode cX12_isOtherwise 78 = .ok (.goto (-53), 3) := by decide +kernel
theorem dX12_isOtherwise_81 : decode cX12_isOtherwise 81 = .ok (.iload_n 1, 1) := by decide +kernel
theorem dX12_isOtherwise_82 : decode cX12_isOtherwise 82 = .ok (.ifCond .ne 7, 3) := by decide +kernel
theorem dX12_isOtherwise_85 : decode cX12_isOtherwise 85 = .ok (.iconst 1, 1) := by decide +kernel
theorem dX12_isOtherwise_86 : decode cX12_isOtherwise 86 = .ok (.goto 4, 3) := by decide +kernel
theorem dX12_isOtherwise_89 : decode cX12_isOtherwise 89 = .ok (.iconst 0, 1) := by decide +kernel
theorem dX12_isOtherwise_90 : decode cX12_isOtherwise 90 = .ok (.ireturn, 1) := by decide +kernel
def fX12_isOtherwise_41 (k25 : Int → Int → Int → Int → V_ → Option (Int × V_)) : Nat → Int → Int → Int → Int → Int → V_ → Option (Int × V_)
  | 0, _, _, _, _, _, _ => none
  | n + 1, x0, x1, x2, x3, x4, v =>
    bd_ (fX12_waysOf x0 x3 v) fun q12 =>
    if q12.1 ≤ x4 then (
      lt_ (wr_ (x3 + 1)) fun y14 =>
      k25 x0 x1 x2 y14 q12.2)
    else (
      if x3 = x2 then (
        lt_ (wr_ (x4 + 1)) fun y16 =>
        (fX12_isOtherwise_41 k25 n) x0 x1 x2 x3 y16 q12.2)
      else (
        bd_ (fX12_wayTo x0 x3 x4 q12.2) fun q17 =>
        if q17.1 = x1 then (
          some (1, q17.2))
        else (
          lt_ (wr_ (x4 + 1)) fun y19 =>
          (fX12_isOtherwise_41 k25 n) x0 x1 x2 x3 y19 q17.2)))
def fX12_isOtherwise_25 : Nat → Int → Int → Int → Int → V_ → Option (Int × V_)
  | 0, _, _, _, _, _ => none
  | n + 1, x0, x1, x2, x3, v =>
    ck_ (0 ≤ v x0 18 ∧ v x0 18 < 2) (
    if (v (x0 + 9) (v x0 18)) ≤ x3 then (
      if x1 = 0 then (
        some (1, v))
      else (
        some (0, v)))
    else (
      fX12_isOtherwise_41 (fX12_isOtherwise_25 n) fu_ x0 x1 x2 x3 0 v))
def fX12_isOtherwise (x0 x1 : Int) (v : V_) : Option (Int × V_) :=
  ck_ (0 ≤ x1 ∧ x1 < 8) (
  ck_ (0 ≤ x1 ∧ x1 < 8) (
  ck_ (0 ≤ wr_ ((wr_ ((wr_ (4 * (v (x0 + 30) x1))) + (v (x0 + 31) x1))) - 1) ∧ wr_ ((wr_ ((wr_ (4 * (v (x0 + 30) x1))) + (v (x0 + 31) x1))) - 1) < 32) (
  lt_ (v (x0 + 32) (wr_ ((wr_ ((wr_ (4 * (v (x0 + 30) x1))) + (v (x0 + 31) x1))) - 1))) fun y7 =>
  fX12_isOtherwise_25 fu_ x0 x1 y7 0 v)))
section
variable {E : En_} {p : Program} {l : Launch} {e : Env} {s : State} {m : MethodId} {args : Array Value} {below : List Frame} {meth : Method} {c : Code} {sz : Int}
theorem tX12_isOtherwise_41 (C : MC_ E p s m c cX12_isOtherwise 5 RX12) (hr : meth.sig.returnType = (some FieldType.boolean)) (hlk : meth.locks = false) (hC : Cl_ E.2.2.2.2.2 sz) {out : Int × V_} (k25 : Int → Int → Int → Int → V_ → Option (Int × V_)) (H_25 : ∀ (x0 x1 x2 x3 : Int) (v : V_), (E.2.2.2.2.2 x0 ∧ ty_ x0 = 12 ∧ ln_ x0 = 0) → k25 x0 x1 x2 x3 v = some out → G_ E p l e (rm_ 2 42) s m args below meth c 5 sz (Q_ E below args s sz sz 0 out.1 out.2) 25 [(0, (2, x0)), (1, (0, x1)), (2, (0, x2)), (3, (0, x3))] [] v sz) : ∀ (n : Nat) (x0 x1 x2 x3 x4 : Int) (v : V_), (E.2.2.2.2.2 x0 ∧ ty_ x0 = 12 ∧ ln_ x0 = 0) → fX12_isOtherwise_41 k25 n x0 x1 x2 x3 x4 v = some out → G_ E p l e (rm_ 2 42) s m args below meth c 5 sz (Q_ E below args s sz sz 0 out.1 out.2) 41 [(0, (2, x0)), (1, (0, x1)), (2, (0, x2)), (3, (0, x3)), (4, (0, x4))] [] v sz := by
  intro n
  induction n with
  | zero =>
    intro x0 x1 x2 x3 x4 v T0 h
    cases h
  | succ n H_41 =>
    intro x0 x1 x2 x3 x4 v T0 h
    rw [fX12_isOtherwise_41] at h
    refine g_iload C (i := 4) dX12_isOtherwise_41 4 rfl ?_
    refine g_aload_n C (f := 0) dX12_isOtherwise_43 0 rfl ?_
    refine g_iload_n C (f := 3) dX12_isOtherwise_44 3 rfl ?_
    obtain ⟨q12, eq12, h⟩ := bd_e h
    refine g_cV C [(0, x3)] (cX12_waysOf_ok l hC T0 eq12) okX12 T0.2.1 (rg_ hC T0.1) km_RX12_393 cv_X12_waysOf rfl (by decide) rfl rfl (Nat.le_of_ble_eq_true rfl) dX12_isOtherwise_45 ?_
    refine g_icmp_ge C 75 dX12_isOtherwise_48 rfl (fun c13 => ?_) (fun c13 => ?_)
    · replace h := if_t h c13
      obtain ⟨y14, ey14, h⟩ := lt_e h
      refine g_iincx C (ls' := [(3, (0, y14)), (0, (2, x0)), (1, (0, x1)), (2, (0, x2)), (4, (0, x4))]) ey14 dX12_isOtherwise_75 3 rfl (by decide) (by decide) rfl ?_
      refine g_goto C 25 dX12_isOtherwise_78 rfl ?_
      refine g_sub [1, 2, 3, 0] rfl rfl ?_
      exact H_25 _ _ _ _ _ T0 h
    · replace h := if_f h c13
      refine g_iload_n C (f := 3) dX12_isOtherwise_51 3 rfl ?_
      refine g_iload_n C (f := 2) dX12_isOtherwise_52 2 rfl ?_
      refine g_icmp_eq C 69 dX12_isOtherwise_53 rfl (fun c15 => ?_) (fun c15 => ?_)
      · replace h := if_t h c15
        obtain ⟨y16, ey16, h⟩ := lt_e h
        refine g_iincx C (ls' := [(4, (0, y16)), (0, (2, x0)), (1, (0, x1)), (2, (0, x2)), (3, (0, x3))]) ey16 dX12_isOtherwise_69 4 rfl (by decide) (by decide) rfl ?_
        refine g_goto C 41 dX12_isOtherwise_72 rfl ?_
        refine g_sub [1, 2, 3, 4, 0] rfl rfl ?_
        exact H_41 _ _ _ _ _ _ T0 h
      · replace h := if_f h c15
        refine g_aload_n C (f := 0) dX12_isOtherwise_56 0 rfl ?_
        refine g_iload_n C (f := 3) dX12_isOtherwise_57 3 rfl ?_
        refine g_iload C (i := 4) dX12_isOtherwise_58 4 rfl ?_
        obtain ⟨q17, eq17, h⟩ := bd_e h
        refine g_cV C [(0, x3), (0, x4)] (cX12_wayTo_ok l hC T0 eq17) okX12 T0.2.1 (rg_ hC T0.1) km_RX12_378 cv_X12_wayTo rfl (by decide) rfl rfl (Nat.le_of_ble_eq_true rfl) dX12_isOtherwise_60 ?_
        refine g_iload_n C (f := 1) dX12_isOtherwise_63 1 rfl ?_
        refine g_icmp_ne C 69 dX12_isOtherwise_64 rfl (fun c18 => ?_) (fun c18 => ?_)
        · replace h := if_f h c18
          obtain ⟨y19, ey19, h⟩ := lt_e h
          refine g_iincx C (ls' := [(4, (0, y19)), (0, (2, x0)), (1, (0, x1)), (2, (0, x2)), (3, (0, x3))]) ey19 dX12_isOtherwise_69 4 rfl (by decide) (by decide) rfl ?_
          refine g_goto C 41 dX12_isOtherwise_72 rfl ?_
          refine g_sub [1, 2, 3, 4, 0] rfl rfl ?_
          exact H_41 _ _ _ _ _ _ T0 h
        · replace h := if_t h c18
          refine g_iconst C (n := 1) dX12_isOtherwise_67 (by decide) ?_
          cases h
          exact g_zret C dX12_isOtherwise_68 hr hlk (Or.inr rfl)
theorem tX12_isOtherwise_25 (C : MC_ E p s m c cX12_isOtherwise 5 RX12) (hr : meth.sig.returnType = (some FieldType.boolean)) (hlk : meth.locks = false) (hC : Cl_ E.2.2.2.2.2 sz) {out : Int × V_} : ∀ (n : Nat) (x0 x1 x2 x3 : Int) (v : V_), (E.2.2.2.2.2 x0 ∧ ty_ x0 = 12 ∧ ln_ x0 = 0) → fX12_isOtherwise_25 n x0 x1 x2 x3 v = some out → G_ E p l e (rm_ 2 42) s m args below meth c 5 sz (Q_ E below args s sz sz 0 out.1 out.2) 25 [(0, (2, x0)), (1, (0, x1)), (2, (0, x2)), (3, (0, x3))] [] v sz := by
  intro n
  induction n with
  | zero =>
    intro x0 x1 x2 x3 v T0 h
    cases h
  | succ n H_25 =>
    intro x0 x1 x2 x3 v T0 h
    rw [fX12_isOtherwise_25] at h
    refine g_iload_n C (f := 3) dX12_isOtherwise_25 3 rfl ?_
    refine g_aload_n C (f := 0) dX12_isOtherwise_26 0 rfl ?_
    have F8 := fX12_22 hC T0.1 T0.2.1
    refine g_getR C (k := 22) (o := 9) okX12 (by decide) kf_RX12_43 dX12_isOtherwise_27 hC T0.1 T0.2.1 rfl rfl ?_
    refine g_aload_n C (f := 0) dX12_isOtherwise_30 0 rfl ?_
    refine g_getf C (k := 18) (kd := 0) okX12 (by decide) kf_RX12_272 dX12_isOtherwise_31 (rg_ hC T0.1) T0.2.1 rfl ?_
    obtain ⟨c9, h⟩ := ck_e h
    refine g_iald C 2 dX12_isOtherwise_34 (rg_ hC F8.1) F8.2.1 F8.2.2 c9 ?_
    refine g_icmp_ge C 81 dX12_isOtherwise_35 rfl (fun c10 => ?_) (fun c10 => ?_)
    · replace h := if_t h c10
      refine g_iload_n C (f := 1) dX12_isOtherwise_81 1 rfl ?_
      refine g_if_ne C 89 dX12_isOtherwise_82 rfl (fun c11 => ?_) (fun c11 => ?_)
      · replace h := if_f h c11
        refine g_iconst C (n := 0) dX12_isOtherwise_89 (by decide) ?_
        cases h
        exact g_zret C dX12_isOtherwise_90 hr hlk (Or.inl rfl)
      · replace h := if_t h c11
        refine g_iconst C (n := 1) dX12_isOtherwise_85 (by decide) ?_
        refine g_goto C 90 dX12_isOtherwise_86 rfl ?_
        cases h
        exact g_zret C dX12_isOtherwise_90 hr hlk (Or.inr rfl)
    · replace h := if_f h c10
      refine g_iconst C (n := 0) dX12_isOtherwise_38 (by decide) ?_
      refine g_istore C (i := 4) (ls' := [(4, (0, 0)), (0, (2, x0)), (1, (0, x1)), (2, (0, x2)), (3, (0, x3))]) dX12_isOtherwise_39 (by decide) rfl ?_
      refine g_sub [1, 2, 3, 4, 0] rfl rfl ?_
      exact tX12_isOtherwise_41 C hr hlk hC _ H_25 _ _ _ _ _ _ _ T0 h
end
theorem cX12_isOtherwise_ok (l : Launch) {E : En_} {sz : Int} (hC : Cl_ E.2.2.2.2.2 sz) {x0 x1 : Int} {v : V_} {out : Int × V_} (T0 : (E.2.2.2.2.2 x0 ∧ ty_ x0 = 12 ∧ ln_ x0 = 0)) (h : fX12_isOtherwise x0 x1 v = some out) : Met l yX12_isOtherwise [.code yX12_isOtherwise cX12_isOtherwise 5 (some FieldType.boolean)] (rm_ 2 42) (Pc_ E sz v [(2, x0), (0, x1)]) (Qc_ E sz 0 out.1 out.2) 0 0 (fun q => E.1 < q) := by
  refine met_G0 RX12 (by decide +kernel) rfl (Nat.le_of_ble_eq_true rfl) ?_
  intro p e s m args below meth c C hr hlk
  rw [fX12_isOtherwise] at h
  refine g_aload_n C (f := 0) dX12_isOtherwise_0 0 rfl ?_
  have F1 := fX12_50 hC T0.1 T0.2.1
  refine g_getR C (k := 50) (o := 32) okX12 (by decide) kf_RX12_112 dX12_isOtherwise_1 hC T0.1 T0.2.1 rfl rfl ?_
  refine g_iconst C (n := 4) dX12_isOtherwise_4 (by decide) ?_
  refine g_aload_n C (f := 0) dX12_isOtherwise_5 0 rfl ?_
  have F2 := fX12_48 hC T0.1 T0.2.1
  refine g_getR C (k := 48) (o := 30) okX12 (by decide) kf_RX12_106 dX12_isOtherwise_6 hC T0.1 T0.2.1 rfl rfl ?_
  refine g_iload_n C (f := 1) dX12_isOtherwise_9 1 rfl ?_
  obtain ⟨c3, h⟩ := ck_e h
  refine g_iald C 8 dX12_isOtherwise_10 (rg_ hC F2.1) F2.2.1 F2.2.2 c3 ?_
  refine g_imul C dX12_isOtherwise_11 ?_
  refine g_aload_n C (f := 0) dX12_isOtherwise_12 0 rfl ?_
  have F4 := fX12_49 hC T0.1 T0.2.1
  refine g_getR C (k := 49) (o := 31) okX12 (by decide) kf_RX12_109 dX12_isOtherwise_13 hC T0.1 T0.2.1 rfl rfl ?_
  refine g_iload_n C (f := 1) dX12_isOtherwise_16 1 rfl ?_
  obtain ⟨c5, h⟩ := ck_e h
  refine g_iald C 8 dX12_isOtherwise_17 (rg_ hC F4.1) F4.2.1 F4.2.2 c5 ?_
  refine g_iadd C dX12_isOtherwise_18 ?_
  refine g_iconst C (n := 1) dX12_isOtherwise_19 (by decide) ?_
  refine g_isub C dX12_isOtherwise_20 ?_
  obtain ⟨c6, h⟩ := ck_e h
  refine g_iald C 32 dX12_isOtherwise_21 (rg_ hC F1.1) F1.2.1 F1.2.2 c6 ?_
  obtain ⟨y7, ey7, h⟩ := lt_e h
  refine g_set C ey7 ?_
  refine g_istore_n C (f := 2) (ls' := [(2, (0, y7)), (0, (2, x0)), (1, (0, x1))]) dX12_isOtherwise_22 (by decide) rfl ?_
  refine g_iconst C (n := 0) dX12_isOtherwise_23 (by decide) ?_
  refine g_istore_n C (f := 3) (ls' := [(3, (0, 0)), (2, (0, y7)), (0, (2, x0)), (1, (0, x1))]) dX12_isOtherwise_24 (by decide) rfl ?_
  refine g_sub [2, 3, 1, 0] rfl rfl ?_
  exact tX12_isOtherwise_25 C hr hlk hC _ _ _ _ _ _ T0 h
theorem dX12_joinedBits_0 : decode cX12_joinedBits 0 = .ok (.iconst 0, 1) := by decide +kernel
theorem dX12_joinedBits_1 : decode cX12_joinedBits 1 = .ok (.istore_n 1, 1) := by decide +kernel
theorem dX12_joinedBits_2 : decode cX12_joinedBits 2 = .ok (.iconst 0, 1) := by decide +kernel
theorem dX12_joinedBits_3 : decode cX12_joinedBits 3 = .ok (.istore_n 2, 1) := by decide +kernel
theorem dX12_joinedBits_4 : decode cX12_joinedBits 4 = .ok (.iload_n 2, 1) := by decide +kernel
theorem dX12_joinedBits_5 : decode cX12_joinedBits 5 = .ok (.aload_n 0, 1) := by decide +kernel
theorem dX12_joinedBits_6 : decode cX12_joinedBits 6 = .ok (.getfield 402, 3) := by decide +kernel
theorem dX12_joinedBits_9 : decode cX12_joinedBits 9 = .ok (.if_icmp .ge 75, 3) := by decide +kernel
theorem dX12_joinedBits_12 : decode cX12_joinedBits 12 = .ok (.iconst 1, 1) := by decide +kernel
theorem dX12_joinedBits_13 : decode cX12_joinedBits 13 = .ok (.istore_n 3, 1) := by decide +kernel
theorem dX12_joinedBits_14 : decode cX12_joinedBits 14 = .ok (.iload_n 3, 1) := by decide +kernel
theorem dX12_joinedBits_15 : decode cX12_joinedBits 15 = .ok (.aload_n 0, 1) := by decide +kernel
theorem dX12_joinedBits_16 : decode cX12_joinedBits 16 = .ok (.getfield 115, 3) := by decide +kernel
theorem dX12_joinedBits_19 : decode cX12_joinedBits 19 = .ok (.iload_n 2, 1) := by decide +kernel
theorem dX12_joinedBits_20 : decode cX12_joinedBits 20 = .ok (.iaload, 1) := by decide +kernel
theorem dX12_joinedBits_21 : decode cX12_joinedBits 21 = .ok (.if_icmp .ge 57, 3) := by decide +kernel
theorem dX12_joinedBits_24 : decode cX12_joinedBits 24 = .ok (.aload_n 0, 1) := by decide +kernel
theorem dX12_joinedBits_25 : decode cX12_joinedBits 25 = .ok (.getfield 112, 3) := by decide +kernel
theorem dX12_joinedBits_28 : decode cX12_joinedBits 28 = .ok (.iconst 4, 1) := by decide +kernel
theorem dX12_joinedBits_29 : decode cX12_joinedBits 29 = .ok (.iload_n 2, 1) := by decide +kernel
theorem dX12_joinedBits_30 : decode cX12_joinedBits 30 = .ok (.imul, 1) := by decide +kernel
theorem dX12_joinedBits_31 : decode cX12_joinedBits 31 = .ok (.iload_n 3, 1) := by decide +kernel
theorem dX12_joinedBits_32 : decode cX12_joinedBits 32 = .ok (.iadd, 1) := by decide +kernel
theorem dX12_joinedBits_33 : decode cX12_joinedBits 33 = .ok (.iaload, 1) := by decide +kernel
theorem dX12_joinedBits_34 : decode cX12_joinedBits 34 = .ok (.istore 4, 2) := by decide +kernel
theorem dX12_joinedBits_36 : decode cX12_joinedBits 36 = .ok (.aload_n 0, 1) := by decide +kernel
theorem dX12_joinedBits_37 : decode cX12_joinedBits 37 = .ok (.iload 4, 2) := by decide +kernel
theorem dX12_joinedBits_39 : decode cX12_joinedBits 39 = .ok (.invokevirtual 591, 3) := by decide +kernel
theorem dX12_joinedBits_42 : decode cX12_joinedBits 42 = .ok (.ifCond .ne 23, 3) := by decide +kernel
theorem dX12_joinedBits_45 : decode cX12_joinedBits 45 = .ok (.iload_n 1, 1) := by decide +kernel
theorem dX12_joinedBits_46 : decode cX12_joinedBits 46 = .ok (.aload_n 0, 1) := by decide +kernel
theorem dX12_joinedBits_47 : decode cX12_joinedBits 47 = .ok (.getfield 112, 3) := by decide +kernel
theorem dX12_joinedBits_50 : decode cX12_joinedBits 50 = .ok (.iconst 4, 1) := by decide +kernel
theorem dX12_joinedBits_51 : decode cX12_joinedBits 51 = .ok (.iload_n 2, 1) := by decide +kernel
theorem dX12_joinedBits_52 : decode cX12_joinedBits 52 = .ok (.imul, 1) := by decide +kernel
theorem dX12_joinedBits_53 : decode cX12_joinedBits 53 = .ok (.iload_n 3, 1) := by decide +kernel
theorem dX12_joinedBits_54 : decode cX12_joinedBits 54 = .ok (.iadd, 1) := by decide +kernel
theorem dX12_joinedBits_55 : decode cX12_joinedBits 55 = .ok (.iconst 1, 1) := by decide +kernel
theorem dX12_joinedBits_56 : decode cX12_joinedBits 56 = .ok (.isub, 1) := by decide +kernel
theorem dX12_joinedBits_57 : decode cX12_joinedBits 57 = .ok (.iaload, 1) := by decide +kernel
theorem dX12_joinedBits_58 : decode cX12_joinedBits 58 = .ok (.ishr, 1) := by decide +kernel
theorem dX12_joinedBits_59 : decode cX12_joinedBits 59 = .ok (.iconst 1, 1) := by decide +kernel
theorem dX12_joinedBits_60 : decode cX12_joinedBits 60 = .ok (.iand, 1) := by decide +kernel
theorem dX12_joinedBits_61 : decode cX12_joinedBits 61 = .ok (.iconst 1, 1) := by decide +kernel
theorem dX12_joinedBits_62 : decode cX12_joinedBits 62 = .ok (.if_icmp .ne 10, 3) := by decide +kernel
theorem dX12_joinedBits_65 : decode cX12_joinedBits 65 = .ok (.iload_n 1, 1) := by decide +kernel
theorem dX12_joinedBits_66 : decode cX12_joinedBits 66 = .ok (.iconst 1, 1) := by decide +kernel
theorem dX12_joinedBits_67 : decode cX12_joinedBits 67 = .ok (.iload 4, 2) := by decide +kernel
theorem dX12_joinedBits_69 : decode cX12_joinedBits 69 = .ok (.ishl, 1) := by decide +kernel
theorem dX12_joinedBits_70 : decode cX12_joinedBits 70 = .ok (.ior, 1) := by decide +kernel
theorem dX12_joinedBits_71 : decode cX12_joinedBits 71 = .ok (.istore_n 1, 1) := by decide +kernel
theorem dX12_joinedBits_72 : decode cX12_joinedBits 72 = .ok (.iinc 3 1, 3) := by decide +kernel
theorem dX12_joinedBits_75 : decode cX12_joinedBits 75 = .ok (.goto (-61), 3) := by decide +kernel
theorem dX12_joinedBits_78 : decode cX12_joinedBits 78 = .ok (.iinc 2 1, 3) := by decide +kernel
theorem dX12_joinedBits_81 : decode cX12_joinedBits 81 = .ok (.goto (-77), 3) := by decide +kernel
theorem dX12_joinedBits_84 : decode cX12_joinedBits 84 = .ok (.iload_n 1, 1) := by decide +kernel
theorem dX12_joinedBits_85 : decode cX12_joinedBits 85 = .ok (.ireturn, 1) := by decide +kernel
def fX12_joinedBits_65 (k4 : Int → Int → Int → V_ → Option (Int × V_)) (k14 : Int → Int → Int → Int → V_ → Option (Int × V_)) (x0 x1 x2 x3 x4 : Int) (v : V_) : Option (Int × V_) :=
  lt_ (bO_ x1 (sL_ 1 x4)) fun y11 =>
  lt_ (wr_ (x3 + 1)) fun y12 =>
  k14 x0 y11 x2 y12 v
def fX12_joinedBits_14 (k4 : Int → Int → Int → V_ → Option (Int × V_)) : Nat → Int → Int → Int → Int → V_ → Option (Int × V_)
  | 0, _, _, _, _, _ => none
  | n + 1, x0, x1, x2, x3, v =>
    ck_ (0 ≤ x2 ∧ x2 < 8) (
    if (v (x0 + 33) x2) ≤ x3 then (
      lt_ (wr_ (x2 + 1)) fun y5 =>
      k4 x0 x1 y5 v)
    else (
      ck_ (0 ≤ wr_ ((wr_ (4 * x2)) + x3) ∧ wr_ ((wr_ (4 * x2)) + x3) < 32) (
      lt_ (v (x0 + 32) (wr_ ((wr_ (4 * x2)) + x3))) fun y8 =>
      bd_ (fX12_isOtherwise x0 y8 v) fun q9 =>
      if q9.1 = 0 then (
        ck_ (0 ≤ wr_ ((wr_ ((wr_ (4 * x2)) + x3)) - 1) ∧ wr_ ((wr_ ((wr_ (4 * x2)) + x3)) - 1) < 32) (
        if (bA_ (sR_ x1 (q9.2 (x0 + 32) (wr_ ((wr_ ((wr_ (4 * x2)) + x3)) - 1)))) 1) = 1 then (
          fX12_joinedBits_65 k4 (fX12_joinedBits_14 k4 n) x0 x1 x2 x3 y8 q9.2)
        else (
          lt_ (wr_ (x3 + 1)) fun y16 =>
          (fX12_joinedBits_14 k4 n) x0 x1 x2 y16 q9.2)))
      else (
        fX12_joinedBits_65 k4 (fX12_joinedBits_14 k4 n) x0 x1 x2 x3 y8 q9.2))))
def fX12_joinedBits_4 : Nat → Int → Int → Int → V_ → Option (Int × V_)
  | 0, _, _, _, _ => none
  | n + 1, x0, x1, x2, v =>
    if (v x0 52) ≤ x2 then (
      some (x1, v))
    else (
      fX12_joinedBits_14 (fX12_joinedBits_4 n) fu_ x0 x1 x2 1 v)
def fX12_joinedBits (x0 : Int) (v : V_) : Option (Int × V_) :=
  fX12_joinedBits_4 fu_ x0 0 0 v
section
variable {E : En_} {p : Program} {l : Launch} {e : Env} {s : State} {m : MethodId} {args : Array Value} {below : List Frame} {meth : Method} {c : Code} {sz : Int}
theorem tX12_joinedBits_65 (C : MC_ E p s m c cX12_joinedBits 5 RX12) (hr : meth.sig.returnType = (some FieldType.int)) (hlk : meth.locks = false) (hC : Cl_ E.2.2.2.2.2 sz) {out : Int × V_} (k4 : Int → Int → Int → V_ → Option (Int × V_)) (H_4 : ∀ (x0 x1 x2 : Int) (v : V_), (E.2.2.2.2.2 x0 ∧ ty_ x0 = 12 ∧ ln_ x0 = 0) → k4 x0 x1 x2 v = some out → G_ E p l e (rm_ 3 66) s m args below meth c 5 sz (Q_ E below args s sz sz 0 out.1 out.2) 4 [(0, (2, x0)), (1, (0, x1)), (2, (0, x2))] [] v sz) (k14 : Int → Int → Int → Int → V_ → Option (Int × V_)) (H_14 : ∀ (x0 x1 x2 x3 : Int) (v : V_), (E.2.2.2.2.2 x0 ∧ ty_ x0 = 12 ∧ ln_ x0 = 0) → k14 x0 x1 x2 x3 v = some out → G_ E p l e (rm_ 3 66) s m args below meth c 5 sz (Q_ E below args s sz sz 0 out.1 out.2) 14 [(0, (2, x0)), (1, (0, x1)), (2, (0, x2)), (3, (0, x3))] [] v sz) (x0 x1 x2 x3 x4 : Int) (v : V_) (T0 : (E.2.2.2.2.2 x0 ∧ ty_ x0 = 12 ∧ ln_ x0 = 0)) (h : fX12_joinedBits_65 k4 k14 x0 x1 x2 x3 x4 v = some out) : G_ E p l e (rm_ 3 66) s m args below meth c 5 sz (Q_ E below args s sz sz 0 out.1 out.2) 65 [(0, (2, x0)), (1, (0, x1)), (2, (0, x2)), (3, (0, x3)), (4, (0, x4))] [] v sz := by
  rw [fX12_joinedBits_65] at h
  refine g_iload_n C (f := 1) dX12_joinedBits_65 1 rfl ?_
  refine g_iconst C (n := 1) dX12_joinedBits_66 (by decide) ?_
  refine g_iload C (i := 4) dX12_joinedBits_67 4 rfl ?_
  refine g_ishl C dX12_joinedBits_69 ?_
  refine g_ior C dX12_joinedBits_70 ?_
  obtain ⟨y11, ey11, h⟩ := lt_e h
  refine g_set C ey11 ?_
  refine g_istore_n C (f := 1) (ls' := [(1, (0, y11)), (0, (2, x0)), (2, (0, x2)), (3, (0, x3)), (4, (0, x4))]) dX12_joinedBits_71 (by decide) rfl ?_
  obtain ⟨y12, ey12, h⟩ := lt_e h
  refine g_iincx C (ls' := [(3, (0, y12)), (1, (0, y11)), (0, (2, x0)), (2, (0, x2)), (4, (0, x4))]) ey12 dX12_joinedBits_72 3 rfl (by decide) (by decide) rfl ?_
  refine g_goto C 14 dX12_joinedBits_75 rfl ?_
  refine g_sub [2, 1, 3, 0] rfl rfl ?_
  exact H_14 _ _ _ _ _ T0 h
theorem tX12_joinedBits_14 (C : MC_ E p s m c cX12_joinedBits 5 RX12) (hr : meth.sig.returnType = (some FieldType.int)) (hlk : meth.locks = false) (hC : Cl_ E.2.2.2.2.2 sz) {out : Int × V_} (k4 : Int → Int → Int → V_ → Option (Int × V_)) (H_4 : ∀ (x0 x1 x2 : Int) (v : V_), (E.2.2.2.2.2 x0 ∧ ty_ x0 = 12 ∧ ln_ x0 = 0) → k4 x0 x1 x2 v = some out → G_ E p l e (rm_ 3 66) s m args below meth c 5 sz (Q_ E below args s sz sz 0 out.1 out.2) 4 [(0, (2, x0)), (1, (0, x1)), (2, (0, x2))] [] v sz) : ∀ (n : Nat) (x0 x1 x2 x3 : Int) (v : V_), (E.2.2.2.2.2 x0 ∧ ty_ x0 = 12 ∧ ln_ x0 = 0) → fX12_joinedBits_14 k4 n x0 x1 x2 x3 v = some out → G_ E p l e (rm_ 3 66) s m args below meth c 5 sz (Q_ E below args s sz sz 0 out.1 out.2) 14 [(0, (2, x0)), (1, (0, x1)), (2, (0, x2)), (3, (0, x3))] [] v sz := by
  intro n
  induction n with
  | zero =>
    intro x0 x1 x2 x3 v T0 h
    cases h
  | succ n H_14 =>
    intro x0 x1 x2 x3 v T0 h
    rw [fX12_joinedBits_14] at h
    refine g_iload_n C (f := 3) dX12_joinedBits_14 3 rfl ?_
    refine g_aload_n C (f := 0) dX12_joinedBits_15 0 rfl ?_
    have F2 := fX12_51 hC T0.1 T0.2.1
    refine g_getR C (k := 51) (o := 33) okX12 (by decide) kf_RX12_115 dX12_joinedBits_16 hC T0.1 T0.2.1 rfl rfl ?_
    refine g_iload_n C (f := 2) dX12_joinedBits_19 2 rfl ?_
    obtain ⟨c3, h⟩ := ck_e h
    refine g_iald C 8 dX12_joinedBits_20 (rg_ hC F2.1) F2.2.1 F2.2.2 c3 ?_
    refine g_icmp_ge C 78 dX12_joinedBits_21 rfl (fun c4 => ?_) (fun c4 => ?_)
    · replace h := if_t h c4
      obtain ⟨y5, ey5, h⟩ := lt_e h
      refine g_iincx C (ls' := [(2, (0, y5)), (0, (2, x0)), (1, (0, x1)), (3, (0, x3))]) ey5 dX12_joinedBits_78 2 rfl (by decide) (by decide) rfl ?_
      refine g_goto C 4 dX12_joinedBits_81 rfl ?_
      refine g_sub [1, 2, 0] rfl rfl ?_
      exact H_4 _ _ _ _ T0 h
    · replace h := if_f h c4
      refine g_aload_n C (f := 0) dX12_joinedBits_24 0 rfl ?_
      have F6 := fX12_50 hC T0.1 T0.2.1
      refine g_getR C (k := 50) (o := 32) okX12 (by decide) kf_RX12_112 dX12_joinedBits_25 hC T0.1 T0.2.1 rfl rfl ?_
      refine g_iconst C (n := 4) dX12_joinedBits_28 (by decide) ?_
      refine g_iload_n C (f := 2) dX12_joinedBits_29 2 rfl ?_
      refine g_imul C dX12_joinedBits_30 ?_
      refine g_iload_n C (f := 3) dX12_joinedBits_31 3 rfl ?_
      refine g_iadd C dX12_joinedBits_32 ?_
      obtain ⟨c7, h⟩ := ck_e h
      refine g_iald C 32 dX12_joinedBits_33 (rg_ hC F6.1) F6.2.1 F6.2.2 c7 ?_
      obtain ⟨y8, ey8, h⟩ := lt_e h
      refine g_set C ey8 ?_
      refine g_istore C (i := 4) (ls' := [(4, (0, y8)), (0, (2, x0)), (1, (0, x1)), (2, (0, x2)), (3, (0, x3))]) dX12_joinedBits_34 (by decide) rfl ?_
      refine g_aload_n C (f := 0) dX12_joinedBits_36 1 rfl ?_
      refine g_iload C (i := 4) dX12_joinedBits_37 0 rfl ?_
      obtain ⟨q9, eq9, h⟩ := bd_e h
      refine g_cV C [(0, y8)] (cX12_isOtherwise_ok l hC T0 eq9) okX12 T0.2.1 (rg_ hC T0.1) km_RX12_591 cv_X12_isOtherwise rfl (by decide) rfl rfl (Nat.le_of_ble_eq_true rfl) dX12_joinedBits_39 ?_
      refine g_if_ne C 65 dX12_joinedBits_42 rfl (fun c10 => ?_) (fun c10 => ?_)
      · replace h := if_f h c10
        refine g_sub [1, 2, 3, 4, 0] rfl rfl ?_
        exact tX12_joinedBits_65 C hr hlk hC _ H_4 _ H_14 _ _ _ _ _ _ T0 h
      · replace h := if_t h c10
        refine g_iload_n C (f := 1) dX12_joinedBits_45 2 rfl ?_
        refine g_aload_n C (f := 0) dX12_joinedBits_46 1 rfl ?_
        have F13 := fX12_50 hC T0.1 T0.2.1
        refine g_getR C (k := 50) (o := 32) okX12 (by decide) kf_RX12_112 dX12_joinedBits_47 hC T0.1 T0.2.1 rfl rfl ?_
        refine g_iconst C (n := 4) dX12_joinedBits_50 (by decide) ?_
        refine g_iload_n C (f := 2) dX12_joinedBits_51 3 rfl ?_
        refine g_imul C dX12_joinedBits_52 ?_
        refine g_iload_n C (f := 3) dX12_joinedBits_53 4 rfl ?_
        refine g_iadd C dX12_joinedBits_54 ?_
        refine g_iconst C (n := 1) dX12_joinedBits_55 (by decide) ?_
        refine g_isub C dX12_joinedBits_56 ?_
        obtain ⟨c14, h⟩ := ck_e h
        refine g_iald C 32 dX12_joinedBits_57 (rg_ hC F13.1) F13.2.1 F13.2.2 c14 ?_
        refine g_ishr C dX12_joinedBits_58 ?_
        refine g_iconst C (n := 1) dX12_joinedBits_59 (by decide) ?_
        refine g_iand C dX12_joinedBits_60 ?_
        refine g_iconst C (n := 1) dX12_joinedBits_61 (by decide) ?_
        refine g_icmp_ne C 72 dX12_joinedBits_62 rfl (fun c15 => ?_) (fun c15 => ?_)
        · replace h := if_f h c15
          obtain ⟨y16, ey16, h⟩ := lt_e h
          refine g_iincx C (ls' := [(3, (0, y16)), (4, (0, y8)), (0, (2, x0)), (1, (0, x1)), (2, (0, x2))]) ey16 dX12_joinedBits_72 4 rfl (by decide) (by decide) rfl ?_
          refine g_goto C 14 dX12_joinedBits_75 rfl ?_
          refine g_sub [2, 3, 4, 0] rfl rfl ?_
          exact H_14 _ _ _ _ _ T0 h
        · replace h := if_t h c15
          refine g_sub [1, 2, 3, 4, 0] rfl rfl ?_
          exact tX12_joinedBits_65 C hr hlk hC _ H_4 _ H_14 _ _ _ _ _ _ T0 h
theorem tX12_joinedBits_4 (C : MC_ E p s m c cX12_joinedBits 5 RX12) (hr : meth.sig.returnType = (some FieldType.int)) (hlk : meth.locks = false) (hC : Cl_ E.2.2.2.2.2 sz) {out : Int × V_} : ∀ (n : Nat) (x0 x1 x2 : Int) (v : V_), (E.2.2.2.2.2 x0 ∧ ty_ x0 = 12 ∧ ln_ x0 = 0) → fX12_joinedBits_4 n x0 x1 x2 v = some out → G_ E p l e (rm_ 3 66) s m args below meth c 5 sz (Q_ E below args s sz sz 0 out.1 out.2) 4 [(0, (2, x0)), (1, (0, x1)), (2, (0, x2))] [] v sz := by
  intro n
  induction n with
  | zero =>
    intro x0 x1 x2 v T0 h
    cases h
  | succ n H_4 =>
    intro x0 x1 x2 v T0 h
    rw [fX12_joinedBits_4] at h
    refine g_iload_n C (f := 2) dX12_joinedBits_4 2 rfl ?_
    refine g_aload_n C (f := 0) dX12_joinedBits_5 0 rfl ?_
    refine g_getf C (k := 52) (kd := 0) okX12 (by decide) kf_RX12_402 dX12_joinedBits_6 (rg_ hC T0.1) T0.2.1 rfl ?_
    refine g_icmp_ge C 84 dX12_joinedBits_9 rfl (fun c1 => ?_) (fun c1 => ?_)
    · replace h := if_t h c1
      refine g_iload_n C (f := 1) dX12_joinedBits_84 1 rfl ?_
      cases h
      exact g_iret C dX12_joinedBits_85 hr hlk
    · replace h := if_f h c1
      refine g_iconst C (n := 1) dX12_joinedBits_12 (by decide) ?_
      refine g_istore_n C (f := 3) (ls' := [(3, (0, 1)), (0, (2, x0)), (1, (0, x1)), (2, (0, x2))]) dX12_joinedBits_13 (by decide) rfl ?_
      refine g_sub [1, 2, 3, 0] rfl rfl ?_
      exact tX12_joinedBits_14 C hr hlk hC _ H_4 _ _ _ _ _ _ T0 h
end
theorem cX12_joinedBits_ok (l : Launch) {E : En_} {sz : Int} (hC : Cl_ E.2.2.2.2.2 sz) {x0 : Int} {v : V_} {out : Int × V_} (T0 : (E.2.2.2.2.2 x0 ∧ ty_ x0 = 12 ∧ ln_ x0 = 0)) (h : fX12_joinedBits x0 v = some out) : Met l yX12_joinedBits [.code yX12_joinedBits cX12_joinedBits 5 (some FieldType.int)] (rm_ 3 66) (Pc_ E sz v [(2, x0)]) (Qc_ E sz 0 out.1 out.2) 0 0 (fun q => E.1 < q) := by
  refine met_G0 RX12 (by decide +kernel) rfl (Nat.le_of_ble_eq_true rfl) ?_
  intro p e s m args below meth c C hr hlk
  rw [fX12_joinedBits] at h
  refine g_iconst C (n := 0) dX12_joinedBits_0 (by decide) ?_
  refine g_istore_n C (f := 1) (ls' := [(1, (0, 0)), (0, (2, x0))]) dX12_joinedBits_1 (by decide) rfl ?_
  refine g_iconst C (n := 0) dX12_joinedBits_2 (by decide) ?_
  refine g_istore_n C (f := 2) (ls' := [(2, (0, 0)), (1, (0, 0)), (0, (2, x0))]) dX12_joinedBits_3 (by decide) rfl ?_
  refine g_sub [2, 1, 0] rfl rfl ?_
  exact tX12_joinedBits_4 C hr hlk hC _ _ _ _ _ T0 h
