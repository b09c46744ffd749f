theorem dX10_growAtBeginning_0 : decode cX10_growAtBeginning 0 = .ok (.aload_n 0, 1) := by decide +kernel
theorem dX10_growAtBeginning_1 : decode cX10_growAtBeginning 1 = .ok (.getfield 34, 3) := by decide +kernel
theorem dX10_growAtBeginning_4 : decode cX10_growAtBeginning 4 = .ok (.iconst 4, 1) := by decide +kernel
theorem dX10_growAtBeginning_5 : decode cX10_growAtBeginning 5 = .ok (.if_icmp .ge 49, 3) := by decide +kernel
theorem dX10_growAtBeginning_8 : decode cX10_growAtBeginning 8 = .ok (.aload_n 0, 1) := by decide +kernel
theorem dX10_growAtBeginning_9 : decode cX10_growAtBeginning 9 = .ok (.getfield 34, 3) := by decide +kernel
theorem dX10_growAtBeginning_12 : decode cX10_growAtBeginning 12 = .ok (.istore_n 2, 1) := by decide +kernel
theorem dX10_growAtBeginning_13 : decode cX10_growAtBeginning 13 = .ok (.iload_n 2, 1) := by decide +kernel
theorem dX10_growAtBeginning_14 : decode cX10_growAtBeginning 14 = .ok (.ifCond .le 23, 3) := by decide +kernel
theorem dX10_growAtBeginning_17 : decode cX10_growAtBeginning 17 = .ok (.aload_n 0, 1) := by decide +kernel
theorem dX10_growAtBeginning_18 : decode cX10_growAtBeginning 18 = .ok (.getfield 9, 3) := by decide +kernel
theorem dX10_growAtBeginning_21 : decode cX10_growAtBeginning 21 = .ok (.iload_n 2, 1) := by decide +kernel
theorem dX10_growAtBeginning_22 : decode cX10_growAtBeginning 22 = .ok (.aload_n 0, 1) := by decide +kernel
theorem dX10_growAtBeginning_23 : decode cX10_growAtBeginning 23 = .ok (.getfield 9, 3) := by decide +kernel
theorem dX10_growAtBeginning_26 : decode cX10_growAtBeginning 26 = .ok (.iload_n 2, 1) := by decide +kernel
theorem dX10_growAtBeginning_27 : decode cX10_growAtBeginning 27 = .ok (.iconst 1, 1) := by decide +kernel
theorem dX10_growAtBeginning_28 : decode cX10_growAtBeginning 28 = .ok (.isub, 1) := by decide +kernel
theorem dX10_growAtBeginning_29 : decode cX10_growAtBeginning 29 = .ok (.iaload, 1) := by decide +kernel
theorem dX10_growAtBeginning_30 : decode cX10_growAtBeginning 30 = .ok (.iastore, 1) := by decide +kernel
theorem dX10_growAtBeginning_31 : decode cX10_growAtBeginning 31 = .ok (.iinc 2 (-1), 3) := by decide +kernel
theorem dX10_growAtBeginning_34 : decode cX10_growAtBeginning 34 = .ok (.goto (-21), 3) := by decide +kernel
theorem dX10_growAtBeginning_37 : decode cX10_growAtBeginning 37 = .ok (.aload_n 0, 1) := by decide +kernel
theorem dX10_growAtBeginning_38 : decode cX10_growAtBeginning 38 = .ok (.getfield 9, 3) := by decide +kernel
theorem dX10_growAtBeginning_41 : decode cX10_growAtBeginning 41 = .ok (.iconst 0, 1) := by decide +kernel
theorem dX10_growAtBeginning_42 : decode cX10_growAtBeginning 42 = .ok (.iload_n 1, 1) := by decide +kernel
theorem dX10_growAtBeginning_43 : decode cX10_growAtBeginning 43 = .ok (.iastore, 1) := by decide +kernel
theorem dX10_growAtBeginning_44 : decode cX10_growAtBeginning 44 = .ok (.aload_n 0, 1) := by decide +kernel
theorem dX10_growAtBeginning_45 : decode cX10_growAtBeginning 45 = .ok (.dup, 1) := by decide +kernel
theorem dX10_growAtBeginning_46 : decode cX10_growAtBeginning 46 = .ok (.getfield 34, 3) := by decide +kernel
theorem dX10_growAtBeginning_49 : decode cX10_growAtBeginning 49 = .ok (.iconst 1, 1) := by decide +kernel
theorem dX10_growAtBeginning_50 : decode cX10_growAtBeginning 50 = .ok (.iadd, 1) := by decide +kernel
theorem dX10_growAtBeginning_51 : decode cX10_growAtBeginning 51 = .ok (.putfield 34, 3) := by decide +kernel
theorem dX10_growAtBeginning_54 : decode cX10_growAtBeginning 54 = .ok (.return_, 1) := by decide +kernel
def fX10_growAtBeginning_13 : Nat → Int → Int → Int → V_ → Option (Int × V_)
  | 0, _, _, _, _ => none
  | n + 1, x0, x1, x2, v =>
    if x2 ≤ 0 then (
      lt_ (up_ v (x0 + 1) 0 x1) fun v5 =>
      lt_ (up_ v5 x0 1 (wr_ ((v5 x0 1) + 1))) fun v6 =>
      some (0, v6))
    else (
      ck_ (0 ≤ wr_ (x2 - 1) ∧ wr_ (x2 - 1) < 4) (
      ck_ (0 ≤ x2 ∧ x2 < 4) (
      lt_ (up_ v (x0 + 1) x2 (v (x0 + 1) (wr_ (x2 - 1)))) fun v11 =>
      lt_ (wr_ (x2 + (-1))) fun y12 =>
      (fX10_growAtBeginning_13 n) x0 x1 y12 v11)))
def fX10_growAtBeginning (x0 x1 : Int) (v : V_) : Option (Int × V_) :=
  if 4 ≤ (v x0 1) then (
    some (0, v))
  else (
    lt_ (v x0 1) fun y2 =>
    fX10_growAtBeginning_13 fu_ x0 x1 y2 v)
section
variable {E : En_} {p : Program} {l : Launch} {e : Env} {s : State} {m : MethodId} {args : Array Value} {below : List Frame} {meth : Method} {c : Code} {sz : Int}
theorem tX10_growAtBeginning_13 (C : MC_ E p s m c cX10_growAtBeginning 3 RX10) (hr : meth.sig.returnType = (none : Option FieldType)) (hlk : meth.locks = false) (hC : Cl_ E.2.2.2.2.2 sz) {out : Int × V_} : ∀ (n : Nat) (x0 x1 x2 : Int) (v : V_), (E.2.2.2.2.2 x0 ∧ ty_ x0 = 10 ∧ ln_ x0 = 0) → fX10_growAtBeginning_13 n x0 x1 x2 v = some out → G_ E p l e (rm_ 0 0) s m args below meth c 3 sz (Q_ E below args s sz sz 9 out.1 out.2) 13 [(0, (2, x0)), (1, (0, x1)), (2, (0, x2))] [] v sz := by
  intro n
  induction n with
  | zero =>
    intro x0 x1 x2 v T0 h
    cases h
  | succ n H_13 =>
    intro x0 x1 x2 v T0 h
    rw [fX10_growAtBeginning_13] at h
    refine g_iload_n C (f := 2) dX10_growAtBeginning_13 2 rfl ?_
    refine g_if_le C 37 dX10_growAtBeginning_14 rfl (fun c3 => ?_) (fun c3 => ?_)
    · replace h := if_t h c3
      refine g_aload_n C (f := 0) dX10_growAtBeginning_37 0 rfl ?_
      have F4 := fX10_0 hC T0.1 T0.2.1
      refine g_getR C (k := 0) (o := 1) okX10 (by decide) kf_RX10_9 dX10_growAtBeginning_38 hC T0.1 T0.2.1 rfl rfl ?_
      refine g_iconst C (n := 0) dX10_growAtBeginning_41 (by decide) ?_
      refine g_iload_n C (f := 1) dX10_growAtBeginning_42 1 rfl ?_
      obtain ⟨v5, ev5, h⟩ := lt_e h
      refine g_iast C 4 dX10_growAtBeginning_43 (rg_ hC F4.1) F4.2.1 F4.2.2 (by decide) v5 ev5 ?_
      refine g_aload_n C (f := 0) dX10_growAtBeginning_44 0 rfl ?_
      refine g_dup C (Nat.ne_of_beq_eq_false rfl) dX10_growAtBeginning_45 ?_
      refine g_getf C (k := 1) (kd := 0) okX10 (by decide) kf_RX10_34 dX10_growAtBeginning_46 (rg_ hC T0.1) T0.2.1 rfl ?_
      refine g_iconst C (n := 1) dX10_growAtBeginning_49 (by decide) ?_
      refine g_iadd C dX10_growAtBeginning_50 ?_
      obtain ⟨v6, ev6, h⟩ := lt_e h
      refine g_putf C (k := 1) (kd := 0) okX10 (by decide) kf_RX10_34 dX10_growAtBeginning_51 (rg_ hC T0.1) T0.2.1 rfl rfl nvI (Or.inl rfl) v6 ev6 ?_
      cases h
      exact g_vret C dX10_growAtBeginning_54 hr hlk
    · replace h := if_f h c3
      refine g_aload_n C (f := 0) dX10_growAtBeginning_17 0 rfl ?_
      have F7 := fX10_0 hC T0.1 T0.2.1
      refine g_getR C (k := 0) (o := 1) okX10 (by decide) kf_RX10_9 dX10_growAtBeginning_18 hC T0.1 T0.2.1 rfl rfl ?_
      refine g_iload_n C (f := 2) dX10_growAtBeginning_21 2 rfl ?_
      refine g_aload_n C (f := 0) dX10_growAtBeginning_22 0 rfl ?_
      have F8 := fX10_0 hC T0.1 T0.2.1
      refine g_getR C (k := 0) (o := 1) okX10 (by decide) kf_RX10_9 dX10_growAtBeginning_23 hC T0.1 T0.2.1 rfl rfl ?_
      refine g_iload_n C (f := 2) dX10_growAtBeginning_26 2 rfl ?_
      refine g_iconst C (n := 1) dX10_growAtBeginning_27 (by decide) ?_
      refine g_isub C dX10_growAtBeginning_28 ?_
      obtain ⟨c9, h⟩ := ck_e h
      refine g_iald C 4 dX10_growAtBeginning_29 (rg_ hC F8.1) F8.2.1 F8.2.2 c9 ?_
      obtain ⟨c10, h⟩ := ck_e h
      obtain ⟨v11, ev11, h⟩ := lt_e h
      refine g_iast C 4 dX10_growAtBeginning_30 (rg_ hC F7.1) F7.2.1 F7.2.2 c10 v11 ev11 ?_
      obtain ⟨y12, ey12, h⟩ := lt_e h
      refine g_iincx C (ls' := [(2, (0, y12)), (0, (2, x0)), (1, (0, x1))]) ey12 dX10_growAtBeginning_31 2 rfl (by decide) (by decide) rfl ?_
      refine g_goto C 13 dX10_growAtBeginning_34 rfl ?_
      refine g_sub [1, 2, 0] rfl rfl ?_
      exact H_13 _ _ _ _ T0 h
end
theorem cX10_growAtBeginning_ok (l : Launch) {E : En_} {sz : Int} (hC : Cl_ E.2.2.2.2.2 sz) {x0 x1 : Int} {v : V_} {out : Int × V_} (T0 : (E.2.2.2.2.2 x0 ∧ ty_ x0 = 10 ∧ ln_ x0 = 0)) (h : fX10_growAtBeginning x0 x1 v = some out) : Met l yX10_growAtBeginning [.code yX10_growAtBeginning cX10_growAtBeginning 3 (none : Option FieldType)] (rm_ 0 0) (Pc_ E sz v [(2, x0), (0, x1)]) (Qc_ E sz 9 out.1 out.2) 0 0 (fun q => E.1 < q) := by
  refine met_G0 RX10 (by decide +kernel) rfl (Nat.le_of_ble_eq_true rfl) ?_
  intro p e s m args below meth c C hr hlk
  rw [fX10_growAtBeginning] at h
  refine g_aload_n C (f := 0) dX10_growAtBeginning_0 0 rfl ?_
  refine g_getf C (k := 1) (kd := 0) okX10 (by decide) kf_RX10_34 dX10_growAtBeginning_1 (rg_ hC T0.1) T0.2.1 rfl ?_
  refine g_iconst C (n := 4) dX10_growAtBeginning_4 (by decide) ?_
  refine g_icmp_ge C 54 dX10_growAtBeginning_5 rfl (fun c1 => ?_) (fun c1 => ?_)
  · replace h := if_t h c1
    cases h
    exact g_vret C dX10_growAtBeginning_54 hr hlk
  · replace h := if_f h c1
    refine g_aload_n C (f := 0) dX10_growAtBeginning_8 0 rfl ?_
    refine g_getf C (k := 1) (kd := 0) okX10 (by decide) kf_RX10_34 dX10_growAtBeginning_9 (rg_ hC T0.1) T0.2.1 rfl ?_
    obtain ⟨y2, ey2, h⟩ := lt_e h
    refine g_set C ey2 ?_
    refine g_istore_n C (f := 2) (ls' := [(2, (0, y2)), (0, (2, x0)), (1, (0, x1))]) dX10_growAtBeginning_12 (by decide) rfl ?_
    refine g_sub [1, 2, 0] rfl rfl ?_
    exact tX10_growAtBeginning_13 C hr hlk hC _ _ _ _ _ T0 h
theorem dX5_leadsTo_0 : decode cX5_leadsTo 0 = .ok (.aload_n 0, 1) := by decide +kernel
theorem dX5_leadsTo_1 : decode cX5_leadsTo 1 = .ok (.getfield 24, 3) := by decide +kernel
theorem dX5_leadsTo_4 : decode cX5_leadsTo 4 = .ok (.iload_n 1, 1) := by decide +kernel
theorem dX5_leadsTo_5 : decode cX5_leadsTo 5 = .ok (.iconst 2, 1) := by decide +kernel
theorem dX5_leadsTo_6 : decode cX5_leadsTo 6 = .ok (.imul, 1) := by decide +kernel
theorem dX5_leadsTo_7 : decode cX5_leadsTo 7 = .ok (.iload_n 2, 1) := by decide +kernel
theorem dX5_leadsTo_8 : decode cX5_leadsTo 8 = .ok (.iadd, 1) := by decide +kernel
theorem dX5_leadsTo_9 : decode cX5_leadsTo 9 = .ok (.iaload, 1) := by decide +kernel
theorem dX5_leadsTo_10 : decode cX5_leadsTo 10 = .ok (.ireturn, 1) := by decide +kernel
def fX5_leadsTo (x0 x1 x2 : Int) (v : V_) : Option (Int × V_) :=
  ck_ (0 ≤ wr_ ((wr_ (x1 * 2)) + x2) ∧ wr_ ((wr_ (x1 * 2)) + x2) < 16) (
  some (v (x0 + 4) (wr_ ((wr_ (x1 * 2)) + x2)), v))
theorem cX5_leadsTo_ok (l : Launch) {E : En_} {sz : Int} (hC : Cl_ E.2.2.2.2.2 sz) {x0 x1 x2 : Int} {v : V_} {out : Int × V_} (T0 : (E.2.2.2.2.2 x0 ∧ ty_ x0 = 5 ∧ ln_ x0 = 0)) (h : fX5_leadsTo x0 x1 x2 v = some out) : Met l yX5_leadsTo [.code yX5_leadsTo cX5_leadsTo 3 (some FieldType.int)] (rm_ 0 0) (Pc_ E sz v [(2, x0), (0, x1), (0, x2)]) (Qc_ E sz 0 out.1 out.2) 0 0 (fun q => E.1 < q) := by
  refine met_G0 RX5 (by decide +kernel) rfl (Nat.le_of_ble_eq_true rfl) ?_
  intro p e s m args below meth c C hr hlk
  rw [fX5_leadsTo] at h
  refine g_aload_n C (f := 0) dX5_leadsTo_0 0 rfl ?_
  have F1 := fX5_4 hC T0.1 T0.2.1
  refine g_getR C (k := 4) (o := 4) okX5 (by decide) kf_RX5_24 dX5_leadsTo_1 hC T0.1 T0.2.1 rfl rfl ?_
  refine g_iload_n C (f := 1) dX5_leadsTo_4 1 rfl ?_
  refine g_iconst C (n := 2) dX5_leadsTo_5 (by decide) ?_
  refine g_imul C dX5_leadsTo_6 ?_
  refine g_iload_n C (f := 2) dX5_leadsTo_7 2 rfl ?_
  refine g_iadd C dX5_leadsTo_8 ?_
  obtain ⟨c2, h⟩ := ck_e h
  refine g_iald C 16 dX5_leadsTo_9 (rg_ hC F1.1) F1.2.1 F1.2.2 c2 ?_
  cases h
  exact g_iret C dX5_leadsTo_10 hr hlk
theorem dX7_goneOf_0 : decode cX7_goneOf 0 = .ok (.aload_n 0, 1) := by decide +kernel
theorem dX7_goneOf_1 : decode cX7_goneOf 1 = .ok (.getfield 11, 3) := by decide +kernel
theorem dX7_goneOf_4 : decode cX7_goneOf 4 = .ok (.bipush 22, 2) := by decide +kernel
theorem dX7_goneOf_6 : decode cX7_goneOf 6 = .ok (.iload_n 1, 1) := by decide +kernel
theorem dX7_goneOf_7 : decode cX7_goneOf 7 = .ok (.iconst 2, 1) := by decide +kernel
theorem dX7_goneOf_8 : decode cX7_goneOf 8 = .ok (.imul, 1) := by decide +kernel
theorem dX7_goneOf_9 : decode cX7_goneOf 9 = .ok (.iadd, 1) := by decide +kernel
theorem dX7_goneOf_10 : decode cX7_goneOf 10 = .ok (.iload_n 2, 1) := by decide +kernel
theorem dX7_goneOf_11 : decode cX7_goneOf 11 = .ok (.iadd, 1) := by decide +kernel
theorem dX7_goneOf_12 : decode cX7_goneOf 12 = .ok (.iaload, 1) := by decide +kernel
theorem dX7_goneOf_13 : decode cX7_goneOf 13 = .ok (.ireturn, 1) := by decide +kernel
def fX7_goneOf (x0 x1 x2 : Int) (v : V_) : Option (Int × V_) :=
  ck_ (0 ≤ wr_ ((wr_ (22 + (wr_ (x1 * 2)))) + x2) ∧ wr_ ((wr_ (22 + (wr_ (x1 * 2)))) + x2) < 47) (
  some (v (x0 + 1) (wr_ ((wr_ (22 + (wr_ (x1 * 2)))) + x2)), v))
theorem cX7_goneOf_ok (l : Launch) {E : En_} {sz : Int} (hC : Cl_ E.2.2.2.2.2 sz) {x0 x1 x2 : Int} {v : V_} {out : Int × V_} (T0 : (E.2.2.2.2.2 x0 ∧ ty_ x0 = 7 ∧ ln_ x0 = 0)) (h : fX7_goneOf x0 x1 x2 v = some out) : Met l yX7_goneOf [.code yX7_goneOf cX7_goneOf 3 (some FieldType.int)] (rm_ 0 0) (Pc_ E sz v [(2, x0), (0, x1), (0, x2)]) (Qc_ E sz 0 out.1 out.2) 0 0 (fun q => E.1 < q) := by
  refine met_G0 RX7 (by decide +kernel) rfl (Nat.le_of_ble_eq_true rfl) ?_
  intro p e s m args below meth c C hr hlk
  rw [fX7_goneOf] at h
  refine g_aload_n C (f := 0) dX7_goneOf_0 0 rfl ?_
  have F1 := fX7_0 hC T0.1 T0.2.1
  refine g_getR C (k := 0) (o := 1) okX7 (by decide) kf_RX7_11 dX7_goneOf_1 hC T0.1 T0.2.1 rfl rfl ?_
  refine g_bipush C (n := 22) dX7_goneOf_4 (by decide) ?_
  refine g_iload_n C (f := 1) dX7_goneOf_6 1 rfl ?_
  refine g_iconst C (n := 2) dX7_goneOf_7 (by decide) ?_
  refine g_imul C dX7_goneOf_8 ?_
  refine g_iadd C dX7_goneOf_9 ?_
  refine g_iload_n C (f := 2) dX7_goneOf_10 2 rfl ?_
  refine g_iadd C dX7_goneOf_11 ?_
  obtain ⟨c2, h⟩ := ck_e h
  refine g_iald C 47 dX7_goneOf_12 (rg_ hC F1.1) F1.2.1 F1.2.2 c2 ?_
  cases h
  exact g_iret C dX7_goneOf_13 hr hlk
theorem dX4_likelyComing_0 : decode cX4_likelyComing 0 = .ok (.iconst (-1), 1) := by decide +kernel
theorem dX4_likelyComing_1 : decode cX4_likelyComing 1 = .ok (.istore_n 3, 1) := by decide +kernel
theorem dX4_likelyComing_2 : decode cX4_likelyComing 2 = .ok (.iconst (-1), 1) := by decide +kernel
theorem dX4_likelyComing_3 : decode cX4_likelyComing 3 = .ok (.istore 4, 2) := by decide +kernel
theorem dX4_likelyComing_5 : decode cX4_likelyComing 5 = .ok (.iconst 0, 1) := by decide +kernel
theorem dX4_likelyComing_6 : decode cX4_likelyComing 6 = .ok (.istore 5, 2) := by decide +kernel
theorem dX4_likelyComing_8 : decode cX4_likelyComing 8 = .ok (.iload 5, 2) := by decide +kernel
theorem dX4_likelyComing_10 : decode cX4_likelyComing 10 = .ok (.aload_n 1, 1) := by decide +kernel
theorem dX4_likelyComing_11 : decode cX4_likelyComing 11 = .ok (.getfield 101, 3) := by decide +kernel
theorem dX4_likelyComing_14 : decode cX4_likelyComing 14 = .ok (.if_icmp .ge 67, 3) := by decide +kernel
theorem dX4_likelyComing_17 : decode cX4_likelyComing 17 = .ok (.iconst 0, 1) := by decide +kernel
theorem dX4_likelyComing_18 : decode cX4_likelyComing 18 = .ok (.istore 6, 2) := by decide +kernel
theorem dX4_likelyComing_20 : decode cX4_likelyComing 20 = .ok (.iload 6, 2) := by decide +kernel
theorem dX4_likelyComing_22 : decode cX4_likelyComing 22 = .ok (.iconst 2, 1) := by decide +kernel
theorem dX4_likelyComing_23 : decode cX4_likelyComing 23 = .ok (.if_icmp .ge 52, 3) := by decide +kernel
theorem dX4_likelyComing_26 : decode cX4_likelyComing 26 = .ok (.aload_n 1, 1) := by decide +kernel
theorem dX4_likelyComing_27 : decode cX4_likelyComing 27 = .ok (.iload 5, 2) := by decide +kernel
theorem dX4_likelyComing_29 : decode cX4_likelyComing 29 = .ok (.iload 6, 2) := by decide +kernel
theorem dX4_likelyComing_31 : decode cX4_likelyComing 31 = .ok (.invokevirtual 116, 3) := by decide +kernel
theorem dX4_likelyComing_34 : decode cX4_likelyComing 34 = .ok (.iload_n 0, 1) := by decide +kernel
theorem dX4_likelyComing_35 : decode cX4_likelyComing 35 = .ok (.if_icmp .ne 34, 3) := by decide +kernel
theorem dX4_likelyComing_38 : decode cX4_likelyComing 38 = .ok (.aload_n 2, 1) := by decide +kernel
theorem dX4_likelyComing_39 : decode cX4_likelyComing 39 = .ok (.iload 5, 2) := by decide +kernel
theorem dX4_likelyComing_41 : decode cX4_likelyComing 41 = .ok (.iload 6, 2) := by decide +kernel
theorem dX4_likelyComing_43 : decode cX4_likelyComing 43 = .ok (.invokevirtual 123, 3) := by decide +kernel
theorem dX4_likelyComing_46 : decode cX4_likelyComing 46 = .ok (.iload 4, 2) := by decide +kernel
theorem dX4_likelyComing_48 : decode cX4_likelyComing 48 = .ok (.if_icmp .le 21, 3) := by decide +kernel
theorem dX4_likelyComing_51 : decode cX4_likelyComing 51 = .ok (.iload 5, 2) := by decide +kernel
theorem dX4_likelyComing_53 : decode cX4_likelyComing 53 = .ok (.iconst 2, 1) := by decide +kernel
theorem dX4_likelyComing_54 : decode cX4_likelyComing 54 = .ok (.imul, 1) := by decide +kernel
theorem dX4_likelyComing_55 : decode cX4_likelyComing 55 = .ok (.iload 6, 2) := by decide +kernel
theorem dX4_likelyComing_57 : decode cX4_likelyComing 57 = .ok (.iadd, 1) := by decide +kernel
theorem dX4_likelyComing_58 : decode cX4_likelyComing 58 = .ok (.istore_n 3, 1) := by decide +kernel
theorem dX4_likelyComing_59 : decode cX4_likelyComing 59 = .ok (.aload_n 2, 1) := by decide +kernel
theorem dX4_likelyComing_60 : decode cX4_likelyComing 60 = .ok (.iload 5, 2) := by decide +kernel
theorem dX4_likelyComing_62 : decode cX4_likelyComing 62 = .ok (.iload 6, 2) := by decide +kernel
theorem dX4_likelyComing_64 : decode cX4_likelyComing 64 = .ok (.invokevirtual 123, 3) := by decide +kernel
theorem dX4_likelyComing_67 : decode cX4_likelyComing 67 = .ok (.istore 4, 2) := by decide +kernel
theorem dX4_likelyComing_69 : decode cX4_likelyComing 69 = .ok (.iinc 6 1, 3) := by decide +kernel
theorem dX4_likelyComing_72 : decode cX4_likelyComing 72 = .ok (.goto (-52), 3) := by decide +kernel
theorem dX4_likelyComing_75 : decode cX4_likelyComing 75 = .ok (.iinc 5 1, 3) := by decide +kernel
theorem dX4_likelyComing_78 : decode cX4_likelyComing 78 = .ok (.goto (-70), 3) := by decide +kernel
theorem dX4_likelyComing_81 : decode cX4_likelyComing 81 = .ok (.iload_n 3, 1) := by decide +kernel
theorem dX4_likelyComing_82 : decode cX4_likelyComing 82 = .ok (.ireturn, 1) := by decide +kernel
def fX4_likelyComing_20 (k8 : Int → Int → Int → Int → Int → Int → V_ → Option (Int × V_)) : Nat → Int → Int → Int → Int → Int → Int → Int → V_ → Option (Int × V_)
  | 0, _, _, _, _, _, _, _, _ => none
  | n + 1, x0, x1, x2, x3, x4, x5, x6, v =>
    if 2 ≤ x6 then (
      lt_ (wr_ (x5 + 1)) fun y3 =>
      k8 x0 x1 x2 x3 x4 y3 v)
    else (
      bd_ (fX5_leadsTo x1 x5 x6 v) fun q4 =>
      if q4.1 = x0 then (
        bd_ (fX7_goneOf x2 x5 x6 q4.2) fun q7 =>
        if q7.1 ≤ x4 then (
          lt_ (wr_ (x6 + 1)) fun y9 =>
          (fX4_likelyComing_20 k8 n) x0 x1 x2 x3 x4 x5 y9 q7.2)
        else (
          lt_ (wr_ ((wr_ (x5 * 2)) + x6)) fun y10 =>
          bd_ (fX7_goneOf x2 x5 x6 q7.2) fun q11 =>
          lt_ (wr_ (x6 + 1)) fun y12 =>
          (fX4_likelyComing_20 k8 n) x0 x1 x2 y10 q11.1 x5 y12 q11.2))
      else (
        lt_ (wr_ (x6 + 1)) fun y6 =>
        (fX4_likelyComing_20 k8 n) x0 x1 x2 x3 x4 x5 y6 q4.2))
def fX4_likelyComing_8 : Nat → Int → Int → Int → Int → Int → Int → V_ → Option (Int × V_)
  | 0, _, _, _, _, _, _, _ => none
  | n + 1, x0, x1, x2, x3, x4, x5, v =>
    if (v x1 0) ≤ x5 then (
      some (x3, v))
    else (
      fX4_likelyComing_20 (fX4_likelyComing_8 n) fu_ x0 x1 x2 x3 x4 x5 0 v)
def fX4_likelyComing (x0 x1 x2 : Int) (v : V_) : Option (Int × V_) :=
  fX4_likelyComing_8 fu_ x0 x1 x2 (-1) (-1) 0 v
section
variable {E : En_} {p : Program} {l : Launch} {e : Env} {s : State} {m : MethodId} {args : Array Value} {below : List Frame} {meth : Method} {c : Code} {sz : Int}
theorem tX4_likelyComing_20 (C : MC_ E p s m c cX4_likelyComing 7 RX4) (hr : meth.sig.returnType = (some FieldType.int)) (hlk : meth.locks = false) (hC : Cl_ E.2.2.2.2.2 sz) {out : Int × V_} (k8 : Int → Int → Int → Int → Int → Int → V_ → Option (Int × V_)) (H_8 : ∀ (x0 x1 x2 x3 x4 x5 : Int) (v : V_), (E.2.2.2.2.2 x1 ∧ ty_ x1 = 5 ∧ ln_ x1 = 0) → (E.2.2.2.2.2 x2 ∧ ty_ x2 = 7 ∧ ln_ x2 = 0) → k8 x0 x1 x2 x3 x4 x5 v = some out → G_ E p l e (rm_ 1 22) s m args below meth c 7 sz (Q_ E below args s sz sz 0 out.1 out.2) 8 [(0, (0, x0)), (1, (2, x1)), (2, (2, x2)), (3, (0, x3)), (4, (0, x4)), (5, (0, x5))] [] v sz) : ∀ (n : Nat) (x0 x1 x2 x3 x4 x5 x6 : Int) (v : V_), (E.2.2.2.2.2 x1 ∧ ty_ x1 = 5 ∧ ln_ x1 = 0) → (E.2.2.2.2.2 x2 ∧ ty_ x2 = 7 ∧ ln_ x2 = 0) → fX4_likelyComing_20 k8 n x0 x1 x2 x3 x4 x5 x6 v = some out → G_ E p l e (rm_ 1 22) s m args below meth c 7 sz (Q_ E below args s sz sz 0 out.1 out.2) 20 [(0, (0, x0)), (1, (2, x1)), (2, (2, x2)), (3, (0, x3)), (4, (0, x4)), (5, (0, x5)), (6, (0, x6))] [] v sz := by
  intro n
  induction n with
  | zero =>
    intro x0 x1 x2 x3 x4 x5 x6 v T1 T2 h
    cases h
  | succ n H_20 =>
    intro x0 x1 x2 x3 x4 x5 x6 v T1 T2 h
    rw [fX4_likelyComing_20] at h
    refine g_iload C (i := 6) dX4_likelyComing_20 6 rfl ?_
    refine g_iconst C (n := 2) dX4_likelyComing_22 (by decide) ?_
    refine g_icmp_ge C 75 dX4_likelyComing_23 rfl (fun c2 => ?_) (fun c2 => ?_)
    · replace h := if_t h c2
      obtain ⟨y3, ey3, h⟩ := lt_e h
      refine g_iincx C (ls' := [(5, (0, y3)), (0, (0, x0)), (1, (2, x1)), (2, (2, x2)), (3, (0, x3)), (4, (0, x4)), (6, (0, x6))]) ey3 dX4_likelyComing_75 5 rfl (by decide) (by decide) rfl ?_
      refine g_goto C 8 dX4_likelyComing_78 rfl ?_
      refine g_sub [1, 2, 3, 4, 5, 0] rfl rfl ?_
      exact H_8 _ _ _ _ _ _ _ T1 T2 h
    · replace h := if_f h c2
      refine g_aload_n C (f := 1) dX4_likelyComing_26 1 rfl ?_
      refine g_iload C (i := 5) dX4_likelyComing_27 5 rfl ?_
      refine g_iload C (i := 6) dX4_likelyComing_29 6 rfl ?_
      obtain ⟨q4, eq4, h⟩ := bd_e h
      refine g_cV C [(0, x5), (0, x6)] (cX5_leadsTo_ok l hC T1 eq4) okX5 T1.2.1 (rg_ hC T1.1) km_RX4_116 cv_X5_leadsTo rfl (by decide) rfl rfl (Nat.le_of_ble_eq_true rfl) dX4_likelyComing_31 ?_
      refine g_iload_n C (f := 0) dX4_likelyComing_34 0 rfl ?_
      refine g_icmp_ne C 69 dX4_likelyComing_35 rfl (fun c5 => ?_) (fun c5 => ?_)
      · replace h := if_f h c5
        obtain ⟨y6, ey6, h⟩ := lt_e h
        refine g_iincx C (ls' := [(6, (0, y6)), (0, (0, x0)), (1, (2, x1)), (2, (2, x2)), (3, (0, x3)), (4, (0, x4)), (5, (0, x5))]) ey6 dX4_likelyComing_69 6 rfl (by decide) (by decide) rfl ?_
        refine g_goto C 20 dX4_likelyComing_72 rfl ?_
        refine g_sub [1, 2, 3, 4, 5, 6, 0] rfl rfl ?_
        exact H_20 _ _ _ _ _ _ _ _ T1 T2 h
      · replace h := if_t h c5
        refine g_aload_n C (f := 2) dX4_likelyComing_38 2 rfl ?_
        refine g_iload C (i := 5) dX4_likelyComing_39 5 rfl ?_
        refine g_iload C (i := 6) dX4_likelyComing_41 6 rfl ?_
        obtain ⟨q7, eq7, h⟩ := bd_e h
        refine g_cV C [(0, x5), (0, x6)] (cX7_goneOf_ok l hC T2 eq7) okX7 T2.2.1 (rg_ hC T2.1) km_RX4_123 cv_X7_goneOf rfl (by decide) rfl rfl (Nat.le_of_ble_eq_true rfl) dX4_likelyComing_43 ?_
        refine g_iload C (i := 4) dX4_likelyComing_46 4 rfl ?_
        refine g_icmp_le C 69 dX4_likelyComing_48 rfl (fun c8 => ?_) (fun c8 => ?_)
        · replace h := if_t h c8
          obtain ⟨y9, ey9, h⟩ := lt_e h
          refine g_iincx C (ls' := [(6, (0, y9)), (0, (0, x0)), (1, (2, x1)), (2, (2, x2)), (3, (0, x3)), (4, (0, x4)), (5, (0, x5))]) ey9 dX4_likelyComing_69 6 rfl (by decide) (by decide) rfl ?_
          refine g_goto C 20 dX4_likelyComing_72 rfl ?_
          refine g_sub [1, 2, 3, 4, 5, 6, 0] rfl rfl ?_
          exact H_20 _ _ _ _ _ _ _ _ T1 T2 h
        · replace h := if_f h c8
          refine g_iload C (i := 5) dX4_likelyComing_51 5 rfl ?_
          refine g_iconst C (n := 2) dX4_likelyComing_53 (by decide) ?_
          refine g_imul C dX4_likelyComing_54 ?_
          refine g_iload C (i := 6) dX4_likelyComing_55 6 rfl ?_
          refine g_iadd C dX4_likelyComing_57 ?_
          obtain ⟨y10, ey10, h⟩ := lt_e h
          refine g_set C ey10 ?_
          refine g_istore_n C (f := 3) (ls' := [(3, (0, y10)), (0, (0, x0)), (1, (2, x1)), (2, (2, x2)), (4, (0, x4)), (5, (0, x5)), (6, (0, x6))]) dX4_likelyComing_58 (by decide) rfl ?_
          refine g_aload_n C (f := 2) dX4_likelyComing_59 3 rfl ?_
          refine g_iload C (i := 5) dX4_likelyComing_60 5 rfl ?_
          refine g_iload C (i := 6) dX4_likelyComing_62 6 rfl ?_
          obtain ⟨q11, eq11, h⟩ := bd_e h
          refine g_cV C [(0, x5), (0, x6)] (cX7_goneOf_ok l hC T2 eq11) okX7 T2.2.1 (rg_ hC T2.1) km_RX4_123 cv_X7_goneOf rfl (by decide) rfl rfl (Nat.le_of_ble_eq_true rfl) dX4_likelyComing_64 ?_
          refine g_istore C (i := 4) (ls' := [(4, (0, q11.1)), (3, (0, y10)), (0, (0, x0)), (1, (2, x1)), (2, (2, x2)), (5, (0, x5)), (6, (0, x6))]) dX4_likelyComing_67 (by decide) rfl ?_
          obtain ⟨y12, ey12, h⟩ := lt_e h
          refine g_iincx C (ls' := [(6, (0, y12)), (4, (0, q11.1)), (3, (0, y10)), (0, (0, x0)), (1, (2, x1)), (2, (2, x2)), (5, (0, x5))]) ey12 dX4_likelyComing_69 6 rfl (by decide) (by decide) rfl ?_
          refine g_goto C 20 dX4_likelyComing_72 rfl ?_
          refine g_sub [3, 4, 5, 2, 1, 6, 0] rfl rfl ?_
          exact H_20 _ _ _ _ _ _ _ _ T1 T2 h
theorem tX4_likelyComing_8 (C : MC_ E p s m c cX4_likelyComing 7 RX4) (hr : meth.sig.returnType = (some FieldType.int)) (hlk : meth.locks = false) (hC : Cl_ E.2.2.2.2.2 sz) {out : Int × V_} : ∀ (n : Nat) (x0 x1 x2 x3 x4 x5 : Int) (v : V_), (E.2.2.2.2.2 x1 ∧ ty_ x1 = 5 ∧ ln_ x1 = 0) → (E.2.2.2.2.2 x2 ∧ ty_ x2 = 7 ∧ ln_ x2 = 0) → fX4_likelyComing_8 n x0 x1 x2 x3 x4 x5 v = some out → G_ E p l e (rm_ 1 22) s m args below meth c 7 sz (Q_ E below args s sz sz 0 out.1 out.2) 8 [(0, (0, x0)), (1, (2, x1)), (2, (2, x2)), (3, (0, x3)), (4, (0, x4)), (5, (0, x5))] [] v sz := by
  intro n
  induction n with
  | zero =>
    intro x0 x1 x2 x3 x4 x5 v T1 T2 h
    cases h
  | succ n H_8 =>
    intro x0 x1 x2 x3 x4 x5 v T1 T2 h
    rw [fX4_likelyComing_8] at h
    refine g_iload C (i := 5) dX4_likelyComing_8 5 rfl ?_
    refine g_aload_n C (f := 1) dX4_likelyComing_10 1 rfl ?_
    refine g_getf C (k := 0) (kd := 0) okX5 (by decide) kf_RX4_101 dX4_likelyComing_11 (rg_ hC T1.1) T1.2.1 rfl ?_
    refine g_icmp_ge C 81 dX4_likelyComing_14 rfl (fun c1 => ?_) (fun c1 => ?_)
    · replace h := if_t h c1
      refine g_iload_n C (f := 3) dX4_likelyComing_81 3 rfl ?_
      cases h
      exact g_iret C dX4_likelyComing_82 hr hlk
    · replace h := if_f h c1
      refine g_iconst C (n := 0) dX4_likelyComing_17 (by decide) ?_
      refine g_istore C (i := 6) (ls' := [(6, (0, 0)), (0, (0, x0)), (1, (2, x1)), (2, (2, x2)), (3, (0, x3)), (4, (0, x4)), (5, (0, x5))]) dX4_likelyComing_18 (by decide) rfl ?_
      refine g_sub [1, 2, 3, 4, 5, 6, 0] rfl rfl ?_
      exact tX4_likelyComing_20 C hr hlk hC _ H_8 _ _ _ _ _ _ _ _ _ T1 T2 h
end
theorem cX4_likelyComing_ok (l : Launch) {E : En_} {sz : Int} (hC : Cl_ E.2.2.2.2.2 sz) {x0 x1 x2 : Int} {v : V_} {out : Int × V_} (T1 : (E.2.2.2.2.2 x1 ∧ ty_ x1 = 5 ∧ ln_ x1 = 0)) (T2 : (E.2.2.2.2.2 x2 ∧ ty_ x2 = 7 ∧ ln_ x2 = 0)) (h : fX4_likelyComing x0 x1 x2 v = some out) : Met l yX4_likelyComing [.code yX4_likelyComing cX4_likelyComing 7 (some FieldType.int)] (rm_ 1 22) (Pc_ E sz v [(0, x0), (2, x1), (2, x2)]) (Qc_ E sz 0 out.1 out.2) 0 0 (fun q => E.1 < q) := by
  refine met_G0 RX4 (by decide +kernel) rfl (Nat.le_of_ble_eq_true rfl) ?_
  intro p e s m args below meth c C hr hlk
  rw [fX4_likelyComing] at h
  refine g_iconst C (n := (-1)) dX4_likelyComing_0 (by decide) ?_
  refine g_istore_n C (f := 3) (ls' := [(3, (0, (-1))), (0, (0, x0)), (1, (2, x1)), (2, (2, x2))]) dX4_likelyComing_1 (by decide) rfl ?_
  refine g_iconst C (n := (-1)) dX4_likelyComing_2 (by decide) ?_
  refine g_istore C (i := 4) (ls' := [(4, (0, (-1))), (3, (0, (-1))), (0, (0, x0)), (1, (2, x1)), (2, (2, x2))]) dX4_likelyComing_3 (by decide) rfl ?_
  refine g_iconst C (n := 0) dX4_likelyComing_5 (by decide) ?_
  refine g_istore C (i := 5) (ls' := [(5, (0, 0)), (4, (0, (-1))), (3, (0, (-1))), (0, (0, x0)), (1, (2, x1)), (2, (2, x2))]) dX4_likelyComing_6 (by decide) rfl ?_
  refine g_sub [3, 4, 5, 2, 1, 0] rfl rfl ?_
  exact tX4_likelyComing_8 C hr hlk hC _ _ _ _ _ _ _ _ T1 T2 h
theorem dX4_likelyWay_0 : decode cX4_likelyWay 0 = .ok (.aload_n 1, 1) := by decide +kernel
theorem dX4_likelyWay_1 : decode cX4_likelyWay 1 = .ok (.iload_n 0, 1) := by decide +kernel
theorem dX4_likelyWay_2 : decode cX4_likelyWay 2 = .ok (.iconst 0, 1) := by decide +kernel
theorem dX4_likelyWay_3 : decode cX4_likelyWay 3 = .ok (.invokevirtual 116, 3) := by decide +kernel
theorem dX4_likelyWay_6 : decode cX4_likelyWay 6 = .ok (.ifCond .ge 5, 3) := by decide +kernel
theorem dX4_likelyWay_9 : decode cX4_likelyWay 9 = .ok (.iconst (-1), 1) := by decide +kernel
theorem dX4_likelyWay_10 : decode cX4_likelyWay 10 = .ok (.ireturn, 1) := by decide +kernel
theorem dX4_likelyWay_11 : decode cX4_likelyWay 11 = .ok (.aload_n 1, 1) := by decide +kernel
theorem dX4_likelyWay_12 : decode cX4_likelyWay 12 = .ok (.iload_n 0, 1) := by decide +kernel
theorem dX4_likelyWay_13 : decode cX4_likelyWay 13 = .ok (.iconst 1, 1) := by decide +kernel
theorem dX4_likelyWay_14 : decode cX4_likelyWay 14 = .ok (.invokevirtual 116, 3) := by decide +kernel
theorem dX4_likelyWay_17 : decode cX4_likelyWay 17 = .ok (.ifCond .ge 5, 3) := by decide +kernel
theorem dX4_likelyWay_20 : decode cX4_likelyWay 20 = .ok (.iconst 0, 1) := by decide +kernel
theorem dX4_likelyWay_21 : decode cX4_likelyWay 21 = .ok (.ireturn, 1) := by decide +kernel
theorem dX4_likelyWay_22 : decode cX4_likelyWay 22 = .ok (.aload_n 2, 1) := by decide +kernel
theorem dX4_likelyWay_23 : decode cX4_likelyWay 23 = .ok (.iload_n 0, 1) := by decide +kernel
theorem dX4_likelyWay_24 : decode cX4_likelyWay 24 = .ok (.iconst 1, 1) := by decide +kernel
theorem dX4_likelyWay_25 : decode cX4_likelyWay 25 = .ok (.invokevirtual 123, 3) := by decide +kernel
theorem dX4_likelyWay_28 : decode cX4_likelyWay 28 = .ok (.aload_n 2, 1) := by decide +kernel
theorem dX4_likelyWay_29 : decode cX4_likelyWay 29 = .ok (.iload_n 0, 1) := by decide +kernel
theorem dX4_likelyWay_30 : decode cX4_likelyWay 30 = .ok (.iconst 0, 1) := by decide +kernel
theorem dX4_likelyWay_31 : decode cX4_likelyWay 31 = .ok (.invokevirtual 123, 3) := by decide +kernel
theorem dX4_likelyWay_34 : decode cX4_likelyWay 34 = .ok (.if_icmp .le 7, 3) := by decide +kernel
theorem dX4_likelyWay_37 : decode cX4_likelyWay 37 = .ok (.iconst 1, 1) := by decide +kernel
theorem dX4_likelyWay_38 : decode cX4_likelyWay 38 = .ok (.goto 4, 3) := by decide +kernel
theorem dX4_likelyWay_41 : decode cX4_likelyWay 41 = .ok (.iconst 0, 1) := by decide +kernel
theorem dX4_likelyWay_42 : decode cX4_likelyWay 42 = .ok (.ireturn, 1) := by decide +kernel
def fX4_likelyWay (x0 x1 x2 : Int) (v : V_) : Option (Int × V_) :=
  bd_ (fX5_leadsTo x1 x0 0 v) fun q1 =>
  if 0 ≤ q1.1 then (
    bd_ (fX5_leadsTo x1 x0 1 q1.2) fun q3 =>
    if 0 ≤ q3.1 then (
      bd_ (fX7_goneOf x2 x0 1 q3.2) fun q5 =>
      bd_ (fX7_goneOf x2 x0 0 q5.2) fun q6 =>
      if q5.1 ≤ q6.1 then (
        some (0, q6.2))
      else (
        some (1, q6.2)))
    else (
      some (0, q3.2)))
  else (
    some ((-1), q1.2))
theorem cX4_likelyWay_ok (l : Launch) {E : En_} {sz : Int} (hC : Cl_ E.2.2.2.2.2 sz) {x0 x1 x2 : Int} {v : V_} {out : Int × V_} (T1 : (E.2.2.2.2.2 x1 ∧ ty_ x1 = 5 ∧ ln_ x1 = 0)) (T2 : (E.2.2.2.2.2 x2 ∧ ty_ x2 = 7 ∧ ln_ x2 = 0)) (h : fX4_likelyWay x0 x1 x2 v = some out) : Met l yX4_likelyWay [.code yX4_likelyWay cX4_likelyWay 3 (some FieldType.int)] (rm_ 1 22) (Pc_ E sz v [(0, x0), (2, x1), (2, x2)]) (Qc_ E sz 0 out.1 out.2) 0 0 (fun q => E.1 < q) := by
  refine met_G0 RX4 (by decide +kernel) rfl (Nat.le_of_ble_eq_true rfl) ?_
  intro p e s m args below meth c C hr hlk
  rw [fX4_likelyWay] at h
  refine g_aload_n C (f := 1) dX4_likelyWay_0 1 rfl ?_
  refine g_iload_n C (f := 0) dX4_likelyWay_1 0 rfl ?_
  refine g_iconst C (n := 0) dX4_likelyWay_2 (by decide) ?_
  obtain ⟨q1, eq1, h⟩ := bd_e h
  refine g_cV C [(0, x0), (0, 0)] (cX5_leadsTo_ok l hC T1 eq1) okX5 T1.2.1 (rg_ hC T1.1) km_RX4_116 cv_X5_leadsTo rfl (by decide) rfl rfl (Nat.le_of_ble_eq_true rfl) dX4_likelyWay_3 ?_
  refine g_if_ge C 11 dX4_likelyWay_6 rfl (fun c2 => ?_) (fun c2 => ?_)
  · replace h := if_t h c2
    refine g_aload_n C (f := 1) dX4_likelyWay_11 1 rfl ?_
    refine g_iload_n C (f := 0) dX4_likelyWay_12 0 rfl ?_
    refine g_iconst C (n := 1) dX4_likelyWay_13 (by decide) ?_
    obtain ⟨q3, eq3, h⟩ := bd_e h
    refine g_cV C [(0, x0), (0, 1)] (cX5_leadsTo_ok l hC T1 eq3) okX5 T1.2.1 (rg_ hC T1.1) km_RX4_116 cv_X5_leadsTo rfl (by decide) rfl rfl (Nat.le_of_ble_eq_true rfl) dX4_likelyWay_14 ?_
    refine g_if_ge C 22 dX4_likelyWay_17 rfl (fun c4 => ?_) (fun c4 => ?_)
    · replace h := if_t h c4
      refine g_aload_n C (f := 2) dX4_likelyWay_22 2 rfl ?_
      refine g_iload_n C (f := 0) dX4_likelyWay_23 0 rfl ?_
      refine g_iconst C (n := 1) dX4_likelyWay_24 (by decide) ?_
      obtain ⟨q5, eq5, h⟩ := bd_e h
      refine g_cV C [(0, x0), (0, 1)] (cX7_goneOf_ok l hC T2 eq5) okX7 T2.2.1 (rg_ hC T2.1) km_RX4_123 cv_X7_goneOf rfl (by decide) rfl rfl (Nat.le_of_ble_eq_true rfl) dX4_likelyWay_25 ?_
      refine g_aload_n C (f := 2) dX4_likelyWay_28 2 rfl ?_
      refine g_iload_n C (f := 0) dX4_likelyWay_29 0 rfl ?_
      refine g_iconst C (n := 0) dX4_likelyWay_30 (by decide) ?_
      obtain ⟨q6, eq6, h⟩ := bd_e h
      refine g_cV C [(0, x0), (0, 0)] (cX7_goneOf_ok l hC T2 eq6) okX7 T2.2.1 (rg_ hC T2.1) km_RX4_123 cv_X7_goneOf rfl (by decide) rfl rfl (Nat.le_of_ble_eq_true rfl) dX4_likelyWay_31 ?_
      refine g_icmp_le C 41 dX4_likelyWay_34 rfl (fun c7 => ?_) (fun c7 => ?_)
      · replace h := if_t h c7
        refine g_iconst C (n := 0) dX4_likelyWay_41 (by decide) ?_
        cases h
        exact g_iret C dX4_likelyWay_42 hr hlk
      · replace h := if_f h c7
        refine g_iconst C (n := 1) dX4_likelyWay_37 (by decide) ?_
        refine g_goto C 42 dX4_likelyWay_38 rfl ?_
        cases h
        exact g_iret C dX4_likelyWay_42 hr hlk
    · replace h := if_f h c4
      refine g_iconst C (n := 0) dX4_likelyWay_20 (by decide) ?_
      cases h
      exact g_iret C dX4_likelyWay_21 hr hlk
  · replace h := if_f h c2
    refine g_iconst C (n := (-1)) dX4_likelyWay_9 (by decide) ?_
    cases h
    exact g_iret C dX4_likelyWay_10 hr hlk
theorem dX4_growAtBeginning_0 : decode cX4_growAtBeginning 0 = .ok (.aload_n 1, 1) := by decide +kernel
theorem dX4_growAtBeginning_1 : decode cX4_growAtBeginning 1 = .ok (.getfield 97, 3) := by decide +kernel
theorem dX4_growAtBeginning_4 : decode cX4_growAtBeginning 4 = .ok (.istore 5, 2) := by decide +kernel
theorem dX4_growAtBeginning_6 : decode cX4_growAtBeginning 6 = .ok (.iload 5, 2) := by decide +kernel
theorem dX4_growAtBeginning_8 : decode cX4_growAtBeginning 8 = .ok (.iconst 4, 1) := by decide +kernel
theorem dX4_growAtBeginning_9 : decode cX4_growAtBeginning 9 = .ok (.if_icmp .ge 77, 3) := by decide +kernel
theorem dX4_growAtBeginning_12 : decode cX4_growAtBeginning 12 = .ok (.aload_n 1, 1) := by decide +kernel
theorem dX4_growAtBeginning_13 : decode cX4_growAtBeginning 13 = .ok (.getfield 98, 3) := by decide +kernel
theorem dX4_growAtBeginning_16 : decode cX4_growAtBeginning 16 = .ok (.iconst 0, 1) := by decide +kernel
theorem dX4_growAtBeginning_17 : decode cX4_growAtBeginning 17 = .ok (.iaload, 1) := by decide +kernel
theorem dX4_growAtBeginning_18 : decode cX4_growAtBeginning 18 = .ok (.aload_n 3, 1) := by decide +kernel
theorem dX4_growAtBeginning_19 : decode cX4_growAtBeginning 19 = .ok (.aload 4, 2) := by decide +kernel
theorem dX4_growAtBeginning_21 : decode cX4_growAtBeginning 21 = .ok (.invokestatic 120, 3) := by decide +kernel
theorem dX4_growAtBeginning_24 : decode cX4_growAtBeginning 24 = .ok (.istore 6, 2) := by decide +kernel
theorem dX4_growAtBeginning_26 : decode cX4_growAtBeginning 26 = .ok (.iload 6, 2) := by decide +kernel
theorem dX4_growAtBeginning_28 : decode cX4_growAtBeginning 28 = .ok (.iconst (-1), 1) := by decide +kernel
theorem dX4_growAtBeginning_29 : decode cX4_growAtBeginning 29 = .ok (.if_icmp .ne 4, 3) := by decide +kernel
theorem dX4_growAtBeginning_32 : decode cX4_growAtBeginning 32 = .ok (.return_, 1) := by decide +kernel
theorem dX4_growAtBeginning_33 : decode cX4_growAtBeginning 33 = .ok (.iload 6, 2) := by decide +kernel
theorem dX4_growAtBeginning_35 : decode cX4_growAtBeginning 35 = .ok (.iconst 2, 1) := by decide +kernel
theorem dX4_growAtBeginning_36 : decode cX4_growAtBeginning 36 = .ok (.idiv, 1) := by decide +kernel
theorem dX4_growAtBeginning_37 : decode cX4_growAtBeginning 37 = .ok (.istore 7, 2) := by decide +kernel
theorem dX4_growAtBeginning_39 : decode cX4_growAtBeginning 39 = .ok (.aload_n 0, 1) := by decide +kernel
theorem dX4_growAtBeginning_40 : decode cX4_growAtBeginning 40 = .ok (.getfield 17, 3) := by decide +kernel
theorem dX4_growAtBeginning_43 : decode cX4_growAtBeginning 43 = .ok (.iload 7, 2) := by decide +kernel
theorem dX4_growAtBeginning_45 : decode cX4_growAtBeginning 45 = .ok (.iaload, 1) := by decide +kernel
theorem dX4_growAtBeginning_46 : decode cX4_growAtBeginning 46 = .ok (.iconst (-1), 1) := by decide +kernel
theorem dX4_growAtBeginning_47 : decode cX4_growAtBeginning 47 = .ok (.if_icmp .ne 18, 3) := by decide +kernel
theorem dX4_growAtBeginning_50 : decode cX4_growAtBeginning 50 = .ok (.iload 7, 2) := by decide +kernel
theorem dX4_growAtBeginning_52 : decode cX4_growAtBeginning 52 = .ok (.aload_n 3, 1) := by decide +kernel
theorem dX4_growAtBeginning_53 : decode cX4_growAtBeginning 53 = .ok (.aload 4, 2) := by decide +kernel
theorem dX4_growAtBeginning_55 : decode cX4_growAtBeginning 55 = .ok (.invokestatic 112, 3) := by decide +kernel
theorem dX4_growAtBeginning_58 : decode cX4_growAtBeginning 58 = .ok (.iload 6, 2) := by decide +kernel
theorem dX4_growAtBeginning_60 : decode cX4_growAtBeginning 60 = .ok (.iconst 2, 1) := by decide +kernel
theorem dX4_growAtBeginning_61 : decode cX4_growAtBeginning 61 = .ok (.irem, 1) := by decide +kernel
theorem dX4_growAtBeginning_62 : decode cX4_growAtBeginning 62 = .ok (.if_icmp .eq 4, 3) := by decide +kernel
theorem dX4_growAtBeginning_65 : decode cX4_growAtBeginning 65 = .ok (.return_, 1) := by decide +kernel
theorem dX4_growAtBeginning_66 : decode cX4_growAtBeginning 66 = .ok (.aload_n 1, 1) := by decide +kernel
theorem dX4_growAtBeginning_67 : decode cX4_growAtBeginning 67 = .ok (.iload 7, 2) := by decide +kernel
theorem dX4_growAtBeginning_69 : decode cX4_growAtBeginning 69 = .ok (.invokevirtual 128, 3) := by decide +kernel
theorem dX4_growAtBeginning_72 : decode cX4_growAtBeginning 72 = .ok (.aload_n 0, 1) := by decide +kernel
theorem dX4_growAtBeginning_73 : decode cX4_growAtBeginning 73 = .ok (.getfield 17, 3) := by decide +kernel
theorem dX4_growAtBeginning_76 : decode cX4_growAtBeginning 76 = .ok (.iload 7, 2) := by decide +kernel
theorem dX4_growAtBeginning_78 : decode cX4_growAtBeginning 78 = .ok (.iload_n 2, 1) := by decide +kernel
theorem dX4_growAtBeginning_79 : decode cX4_growAtBeginning 79 = .ok (.iastore, 1) := by decide +kernel
theorem dX4_growAtBeginning_80 : decode cX4_growAtBeginning 80 = .ok (.iinc 5 1, 3) := by decide +kernel
theorem dX4_growAtBeginning_83 : decode cX4_growAtBeginning 83 = .ok (.goto (-77), 3) := by decide +kernel
theorem dX4_growAtBeginning_86 : decode cX4_growAtBeginning 86 = .ok (.return_, 1) := by decide +kernel
def fX4_growAtBeginning_6 : Nat → Int → Int → Int → Int → Int → Int → V_ → Option (Int × V_)
  | 0, _, _, _, _, _, _, _ => none
  | n + 1, x0, x1, x2, x3, x4, x5, v =>
    if 4 ≤ x5 then (
      some (0, v))
    else (
      bd_ (fX4_likelyComing (v (x1 + 1) 0) x3 x4 v) fun q4 =>
      if q4.1 = (-1) then (
        some (0, q4.2))
      else (
        lt_ (wr_ (Int.tdiv q4.1 2)) fun y6 =>
        ck_ (0 ≤ y6 ∧ y6 < 8) (
        if (q4.2 (x0 + 2) y6) = (-1) then (
          bd_ (fX4_likelyWay y6 x3 x4 q4.2) fun q10 =>
          if q10.1 = (Int.tmod q4.1 2) then (
            bd_ (fX10_growAtBeginning x1 y6 q10.2) fun q12 =>
            ck_ (0 ≤ y6 ∧ y6 < 8) (
            lt_ (up_ q12.2 (x0 + 2) y6 x2) fun v15 =>
            lt_ (wr_ (x5 + 1)) fun y16 =>
            (fX4_growAtBeginning_6 n) x0 x1 x2 x3 x4 y16 v15))
          else (
            some (0, q10.2)))
        else (
          some (0, q4.2)))))
def fX4_growAtBeginning (x0 x1 x2 x3 x4 : Int) (v : V_) : Option (Int × V_) :=
  lt_ (v x1 1) fun y1 =>
  fX4_growAtBeginning_6 fu_ x0 x1 x2 x3 x4 y1 v
section
variable {E : En_} {p : Program} {l : Launch} {e : Env} {s : State} {m : MethodId} {args : Array Value} {below : List Frame} {meth : Method} {c : Code} {sz : Int}
theorem tX4_growAtBeginning_6 (C : MC_ E p s m c cX4_growAtBeginning 8 RX4) (hr : meth.sig.returnType = (none : Option FieldType)) (hlk : meth.locks = false) (hC : Cl_ E.2.2.2.2.2 sz) {out : Int × V_} : ∀ (n : Nat) (x0 x1 x2 x3 x4 x5 : Int) (v : V_), (E.2.2.2.2.2 x0 ∧ ty_ x0 = 4 ∧ ln_ x0 = 0) → (E.2.2.2.2.2 x1 ∧ ty_ x1 = 10 ∧ ln_ x1 = 0) → (E.2.2.2.2.2 x3 ∧ ty_ x3 = 5 ∧ ln_ x3 = 0) → (E.2.2.2.2.2 x4 ∧ ty_ x4 = 7 ∧ ln_ x4 = 0) → fX4_growAtBeginning_6 n x0 x1 x2 x3 x4 x5 v = some out → G_ E p l e (rm_ 2 48) s m args below meth c 8 sz (Q_ E below args s sz sz 9 out.1 out.2) 6 [(0, (2, x0)), (1, (2, x1)), (2, (0, x2)), (3, (2, x3)), (4, (2, x4)), (5, (0, x5))] [] v sz := by
  intro n
  induction n with
  | zero =>
    intro x0 x1 x2 x3 x4 x5 v T0 T1 T3 T4 h
    cases h
  | succ n H_6 =>
    intro x0 x1 x2 x3 x4 x5 v T0 T1 T3 T4 h
    rw [fX4_growAtBeginning_6] at h
    refine g_iload C (i := 5) dX4_growAtBeginning_6 5 rfl ?_
    refine g_iconst C (n := 4) dX4_growAtBeginning_8 (by decide) ?_
    refine g_icmp_ge C 86 dX4_growAtBeginning_9 rfl (fun c2 => ?_) (fun c2 => ?_)
    · replace h := if_t h c2
      cases h
      exact g_vret C dX4_growAtBeginning_86 hr hlk
    · replace h := if_f h c2
      refine g_aload_n C (f := 1) dX4_growAtBeginning_12 1 rfl ?_
      have F3 := fX10_0 hC T1.1 T1.2.1
      refine g_getR C (k := 0) (o := 1) okX10 (by decide) kf_RX4_98 dX4_growAtBeginning_13 hC T1.1 T1.2.1 rfl rfl ?_
      refine g_iconst C (n := 0) dX4_growAtBeginning_16 (by decide) ?_
      refine g_iald C 4 dX4_growAtBeginning_17 (rg_ hC F3.1) F3.2.1 F3.2.2 (by decide) ?_
      refine g_aload_n C (f := 3) dX4_growAtBeginning_18 3 rfl ?_
      refine g_aload C (i := 4) dX4_growAtBeginning_19 4 rfl ?_
      obtain ⟨q4, eq4, h⟩ := bd_e h
      refine g_cS C [(0, v (x1 + 1) 0), (2, x3), (2, x4)] (cX4_likelyComing_ok l hC T3 T4 eq4) km_RX4_120 cs_X4_likelyComing rfl (by decide) rfl rfl (Nat.le_of_ble_eq_true rfl) dX4_growAtBeginning_21 ?_
      refine g_istore C (i := 6) (ls' := [(6, (0, q4.1)), (0, (2, x0)), (1, (2, x1)), (2, (0, x2)), (3, (2, x3)), (4, (2, x4)), (5, (0, x5))]) dX4_growAtBeginning_24 (by decide) rfl ?_
      refine g_iload C (i := 6) dX4_growAtBeginning_26 0 rfl ?_
      refine g_iconst C (n := (-1)) dX4_growAtBeginning_28 (by decide) ?_
      refine g_icmp_ne C 33 dX4_growAtBeginning_29 rfl (fun c5 => ?_) (fun c5 => ?_)
      · replace h := if_f h c5
        refine g_iload C (i := 6) dX4_growAtBeginning_33 0 rfl ?_
        refine g_iconst C (n := 2) dX4_growAtBeginning_35 (by decide) ?_
        refine g_idiv C dX4_growAtBeginning_36 (by decide) ?_
        obtain ⟨y6, ey6, h⟩ := lt_e h
        refine g_set C ey6 ?_
        refine g_istore C (i := 7) (ls' := [(7, (0, y6)), (6, (0, q4.1)), (0, (2, x0)), (1, (2, x1)), (2, (0, x2)), (3, (2, x3)), (4, (2, x4)), (5, (0, x5))]) dX4_growAtBeginning_37 (by decide) rfl ?_
        refine g_aload_n C (f := 0) dX4_growAtBeginning_39 2 rfl ?_
        have F7 := fX4_3 hC T0.1 T0.2.1
        refine g_getR C (k := 3) (o := 2) okX4 (by decide) kf_RX4_17 dX4_growAtBeginning_40 hC T0.1 T0.2.1 rfl rfl ?_
        refine g_iload C (i := 7) dX4_growAtBeginning_43 0 rfl ?_
        obtain ⟨c8, h⟩ := ck_e h
        refine g_iald C 8 dX4_growAtBeginning_45 (rg_ hC F7.1) F7.2.1 F7.2.2 c8 ?_
        refine g_iconst C (n := (-1)) dX4_growAtBeginning_46 (by decide) ?_
        refine g_icmp_ne C 65 dX4_growAtBeginning_47 rfl (fun c9 => ?_) (fun c9 => ?_)
        · replace h := if_f h c9
          cases h
          exact g_vret C dX4_growAtBeginning_65 hr hlk
        · replace h := if_t h c9
          refine g_iload C (i := 7) dX4_growAtBeginning_50 0 rfl ?_
          refine g_aload_n C (f := 3) dX4_growAtBeginning_52 5 rfl ?_
          refine g_aload C (i := 4) dX4_growAtBeginning_53 6 rfl ?_
          obtain ⟨q10, eq10, h⟩ := bd_e h
          refine g_cS C [(0, y6), (2, x3), (2, x4)] (cX4_likelyWay_ok l hC T3 T4 eq10) km_RX4_112 cs_X4_likelyWay rfl (by decide) rfl rfl (Nat.le_of_ble_eq_true rfl) dX4_growAtBeginning_55 ?_
          refine g_iload C (i := 6) dX4_growAtBeginning_58 1 rfl ?_
          refine g_iconst C (n := 2) dX4_growAtBeginning_60 (by decide) ?_
          refine g_irem C dX4_growAtBeginning_61 (by decide) ?_
          refine g_icmp_eq C 66 dX4_growAtBeginning_62 rfl (fun c11 => ?_) (fun c11 => ?_)
          · replace h := if_t h c11
            refine g_aload_n C (f := 1) dX4_growAtBeginning_66 3 rfl ?_
            refine g_iload C (i := 7) dX4_growAtBeginning_67 0 rfl ?_
            obtain ⟨q12, eq12, h⟩ := bd_e h
            refine g_cV C [(0, y6)] (cX10_growAtBeginning_ok l hC T1 eq12) okX10 T1.2.1 (rg_ hC T1.1) km_RX4_128 cv_X10_growAtBeginning rfl (by decide) rfl rfl (Nat.le_of_ble_eq_true rfl) dX4_growAtBeginning_69 ?_
            refine g_aload_n C (f := 0) dX4_growAtBeginning_72 2 rfl ?_
            have F13 := fX4_3 hC T0.1 T0.2.1
            refine g_getR C (k := 3) (o := 2) okX4 (by decide) kf_RX4_17 dX4_growAtBeginning_73 hC T0.1 T0.2.1 rfl rfl ?_
            refine g_iload C (i := 7) dX4_growAtBeginning_76 0 rfl ?_
            refine g_iload_n C (f := 2) dX4_growAtBeginning_78 4 rfl ?_
            obtain ⟨c14, h⟩ := ck_e h
            obtain ⟨v15, ev15, h⟩ := lt_e h
            refine g_iast C 8 dX4_growAtBeginning_79 (rg_ hC F13.1) F13.2.1 F13.2.2 c14 v15 ev15 ?_
            obtain ⟨y16, ey16, h⟩ := lt_e h
            refine g_iincx C (ls' := [(5, (0, y16)), (7, (0, y6)), (6, (0, q4.1)), (0, (2, x0)), (1, (2, x1)), (2, (0, x2)), (3, (2, x3)), (4, (2, x4))]) ey16 dX4_growAtBeginning_80 7 rfl (by decide) (by decide) rfl ?_
            refine g_goto C 6 dX4_growAtBeginning_83 rfl ?_
            refine g_sub [3, 4, 5, 6, 7, 0] rfl rfl ?_
            exact H_6 _ _ _ _ _ _ _ T0 T1 T3 T4 h
          · replace h := if_f h c11
            cases h
            exact g_vret C dX4_growAtBeginning_65 hr hlk
      · replace h := if_t h c5
        cases h
        exact g_vret C dX4_growAtBeginning_32 hr hlk
end
theorem cX4_growAtBeginning_ok (l : Launch) {E : En_} {sz : Int} (hC : Cl_ E.2.2.2.2.2 sz) {x0 x1 x2 x3 x4 : Int} {v : V_} {out : Int × V_} (T0 : (E.2.2.2.2.2 x0 ∧ ty_ x0 = 4 ∧ ln_ x0 = 0)) (T1 : (E.2.2.2.2.2 x1 ∧ ty_ x1 = 10 ∧ ln_ x1 = 0)) (T3 : (E.2.2.2.2.2 x3 ∧ ty_ x3 = 5 ∧ ln_ x3 = 0)) (T4 : (E.2.2.2.2.2 x4 ∧ ty_ x4 = 7 ∧ ln_ x4 = 0)) (h : fX4_growAtBeginning x0 x1 x2 x3 x4 v = some out) : Met l yX4_growAtBeginning [.code yX4_growAtBeginning cX4_growAtBeginning 8 (none : Option FieldType)] (rm_ 2 48) (Pc_ E sz v [(2, x0), (2, x1), (0, x2), (2, x3), (2, x4)]) (Qc_ E sz 9 out.1 out.2) 0 0 (fun q => E.1 < q) := by
  refine met_G0 RX4 (by decide +kernel) rfl (Nat.le_of_ble_eq_true rfl) ?_
  intro p e s m args below meth c C hr hlk
  rw [fX4_growAtBeginning] at h
  refine g_aload_n C (f := 1) dX4_growAtBeginning_0 1 rfl ?_
  refine g_getf C (k := 1) (kd := 0) okX10 (by decide) kf_RX4_97 dX4_growAtBeginning_1 (rg_ hC T1.1) T1.2.1 rfl ?_
  obtain ⟨y1, ey1, h⟩ := lt_e h
  refine g_set C ey1 ?_
  refine g_istore C (i := 5) (ls' := [(5, (0, y1)), (0, (2, x0)), (1, (2, x1)), (2, (0, x2)), (3, (2, x3)), (4, (2, x4))]) dX4_growAtBeginning_4 (by decide) rfl ?_
  refine g_sub [1, 2, 3, 4, 5, 0] rfl rfl ?_
  exact tX4_growAtBeginning_6 C hr hlk hC _ _ _ _ _ _ _ _ T0 T1 T3 T4 h
theorem dX10_growAtEnd_0 : decode cX10_growAtEnd 0 = .ok (.aload_n 0, 1) := by decide +kernel
theorem dX10_growAtEnd_1 : decode cX10_growAtEnd 1 = .ok (.getfield 34, 3) := by decide +kernel
theorem dX10_growAtEnd_4 : decode cX10_growAtEnd 4 = .ok (.iconst 4, 1) := by decide +kernel
theorem dX10_growAtEnd_5 : decode cX10_growAtEnd 5 = .ok (.if_icmp .ge 23, 3) := by decide +kernel
theorem dX10_growAtEnd_8 : decode cX10_growAtEnd 8 = .ok (.aload_n 0, 1) := by decide +kernel
theorem dX10_growAtEnd_9 : decode cX10_growAtEnd 9 = .ok (.getfield 9, 3) := by decide +kernel
theorem dX10_growAtEnd_12 : decode cX10_growAtEnd 12 = .ok (.aload_n 0, 1) := by decide +kernel
theorem dX10_growAtEnd_13 : decode cX10_growAtEnd 13 = .ok (.getfield 34, 3) := by decide +kernel
theorem dX10_growAtEnd_16 : decode cX10_growAtEnd 16 = .ok (.iload_n 1, 1) := by decide +kernel
theorem dX10_growAtEnd_17 : decode cX10_growAtEnd 17 = .ok (.iastore, 1) := by decide +kernel
theorem dX10_growAtEnd_18 : decode cX10_growAtEnd 18 = .ok (.aload_n 0, 1) := by decide +kernel
theorem dX10_growAtEnd_19 : decode cX10_growAtEnd 19 = .ok (.dup, 1) := by decide +kernel
theorem dX10_growAtEnd_20 : decode cX10_growAtEnd 20 = .ok (.getfield 34, 3) := by decide +kernel
theorem dX10_growAtEnd_23 : decode cX10_growAtEnd 23 = .ok (.iconst 1, 1) := by decide +kernel
theorem dX10_growAtEnd_24 : decode cX10_growAtEnd 24 = .ok (.iadd, 1) := by decide +kernel
theorem dX10_growAtEnd_25 : decode cX10_growAtEnd 25 = .ok (.putfield 34, 3) := by decide +kernel
theorem dX10_growAtEnd_28 : decode cX10_growAtEnd 28 = .ok (.return_, 1) := by decide +kernel
def fX10_growAtEnd (x0 x1 : Int) (v : V_) : Option (Int × V_) :=
  if 4 ≤ (v x0 1) then (
    some (0, v))
  else (
    ck_ (0 ≤ v x0 1 ∧ v x0 1 < 4) (
    lt_ (up_ v (x0 + 1) (v x0 1) x1) fun v4 =>
    lt_ (up_ v4 x0 1 (wr_ ((v4 x0 1) + 1))) fun v5 =>
    some (0, v5)))
theorem cX10_growAtEnd_ok (l : Launch) {E : En_} {sz : Int} (hC : Cl_ E.2.2.2.2.2 sz) {x0 x1 : Int} {v : V_} {out : Int × V_} (T0 : (E.2.2.2.2.2 x0 ∧ ty_ x0 = 10 ∧ ln_ x0 = 0)) (h : fX10_growAtEnd x0 x1 v = some out) : Met l yX10_growAtEnd [.code yX10_growAtEnd cX10_growAtEnd 2 (none : Option FieldType)] (rm_ 0 0) (Pc_ E sz v [(2, x0), (0, x1)]) (Qc_ E sz 9 out.1 out.2) 0 0 (fun q => E.1 < q) := by
  refine met_G0 RX10 (by decide +kernel) rfl (Nat.le_of_ble_eq_true rfl) ?_
  intro p e s m args below meth c C hr hlk
  rw [fX10_growAtEnd] at h
  refine g_aload_n C (f := 0) dX10_growAtEnd_0 0 rfl ?_
  refine g_getf C (k := 1) (kd := 0) okX10 (by decide) kf_RX10_34 dX10_growAtEnd_1 (rg_ hC T0.1) T0.2.1 rfl ?_
  refine g_iconst C (n := 4) dX10_growAtEnd_4 (by decide) ?_
  refine g_icmp_ge C 28 dX10_growAtEnd_5 rfl (fun c1 => ?_) (fun c1 => ?_)
  · replace h := if_t h c1
    cases h
    exact g_vret C dX10_growAtEnd_28 hr hlk
  · replace h := if_f h c1
    refine g_aload_n C (f := 0) dX10_growAtEnd_8 0 rfl ?_
    have F2 := fX10_0 hC T0.1 T0.2.1
    refine g_getR C (k := 0) (o := 1) okX10 (by decide) kf_RX10_9 dX10_growAtEnd_9 hC T0.1 T0.2.1 rfl rfl ?_
    refine g_aload_n C (f := 0) dX10_growAtEnd_12 0 rfl ?_
    refine g_getf C (k := 1) (kd := 0) okX10 (by decide) kf_RX10_34 dX10_growAtEnd_13 (rg_ hC T0.1) T0.2.1 rfl ?_
    refine g_iload_n C (f := 1) dX10_growAtEnd_16 1 rfl ?_
    obtain ⟨c3, h⟩ := ck_e h
    obtain ⟨v4, ev4, h⟩ := lt_e h
    refine g_iast C 4 dX10_growAtEnd_17 (rg_ hC F2.1) F2.2.1 F2.2.2 c3 v4 ev4 ?_
    refine g_aload_n C (f := 0) dX10_growAtEnd_18 0 rfl ?_
    refine g_dup C (Nat.ne_of_beq_eq_false rfl) dX10_growAtEnd_19 ?_
    refine g_getf C (k := 1) (kd := 0) okX10 (by decide) kf_RX10_34 dX10_growAtEnd_20 (rg_ hC T0.1) T0.2.1 rfl ?_
    refine g_iconst C (n := 1) dX10_growAtEnd_23 (by decide) ?_
    refine g_iadd C dX10_growAtEnd_24 ?_
    obtain ⟨v5, ev5, h⟩ := lt_e h
    refine g_putf C (k := 1) (kd := 0) okX10 (by decide) kf_RX10_34 dX10_growAtEnd_25 (rg_ hC T0.1) T0.2.1 rfl rfl nvI (Or.inl rfl) v5 ev5 ?_
    cases h
    exact g_vret C dX10_growAtEnd_28 hr hlk
theorem dX10_lastBlock_0 : decode cX10_lastBlock 0 = .ok (.aload_n 0, 1) := by decide +kernel
theorem dX10_lastBlock_1 : decode cX10_lastBlock 1 = .ok (.getfield 34, 3) := by decide +kernel
theorem dX10_lastBlock_4 : decode cX10_lastBlock 4 = .ok (.ifCond .le 25, 3) := by decide +kernel
theorem dX10_lastBlock_7 : decode cX10_lastBlock 7 = .ok (.aload_n 0, 1) := by decide +kernel
theorem dX10_lastBlock_8 : decode cX10_lastBlock 8 = .ok (.getfield 34, 3) := by decide +kernel
theorem dX10_lastBlock_11 : decode cX10_lastBlock 11 = .ok (.iconst 4, 1) := by decide +kernel
theorem dX10_lastBlock_12 : decode cX10_lastBlock 12 = .ok (.if_icmp .gt 17, 3) := by decide +kernel
theorem dX10_lastBlock_15 : decode cX10_lastBlock 15 = .ok (.aload_n 0, 1) := by decide +kernel
theorem dX10_lastBlock_16 : decode cX10_lastBlock 16 = .ok (.getfield 9, 3) := by decide +kernel
theorem dX10_lastBlock_19 : decode cX10_lastBlock 19 = .ok (.aload_n 0, 1) := by decide +kernel
theorem dX10_lastBlock_20 : decode cX10_lastBlock 20 = .ok (.getfield 34, 3) := by decide +kernel
theorem dX10_lastBlock_23 : decode cX10_lastBlock 23 = .ok (.iconst 1, 1) := by decide +kernel
theorem dX10_lastBlock_24 : decode cX10_lastBlock 24 = .ok (.isub, 1) := by decide +kernel
theorem dX10_lastBlock_25 : decode cX10_lastBlock 25 = .ok (.iaload, 1) := by decide +kernel
theorem dX10_lastBlock_26 : decode cX10_lastBlock 26 = .ok (.goto 4, 3) := by decide +kernel
theorem dX10_lastBlock_29 : decode cX10_lastBlock 29 = .ok (.iconst (-1), 1) := by decide +kernel
theorem dX10_lastBlock_30 : decode cX10_lastBlock 30 = .ok (.ireturn, 1) := by decide +kernel
def fX10_lastBlock (x0 : Int) (v : V_) : Option (Int × V_) :=
  if (v x0 1) ≤ 0 then (
    some ((-1), v))
  else (
    if 4 < (v x0 1) then (
      some ((-1), v))
    else (
      ck_ (0 ≤ wr_ ((v x0 1) - 1) ∧ wr_ ((v x0 1) - 1) < 4) (
      some (v (x0 + 1) (wr_ ((v x0 1) - 1)), v))))
theorem cX10_lastBlock_ok (l : Launch) {E : En_} {sz : Int} (hC : Cl_ E.2.2.2.2.2 sz) {x0 : Int} {v : V_} {out : Int × V_} (T0 : (E.2.2.2.2.2 x0 ∧ ty_ x0 = 10 ∧ ln_ x0 = 0)) (h : fX10_lastBlock x0 v = some out) : Met l yX10_lastBlock [.code yX10_lastBlock cX10_lastBlock 1 (some FieldType.int)] (rm_ 0 0) (Pc_ E sz v [(2, x0)]) (Qc_ E sz 0 out.1 out.2) 0 0 (fun q => E.1 < q) := by
  refine met_G0 RX10 (by decide +kernel) rfl (Nat.le_of_ble_eq_true rfl) ?_
  intro p e s m args below meth c C hr hlk
  rw [fX10_lastBlock] at h
  refine g_aload_n C (f := 0) dX10_lastBlock_0 0 rfl ?_
  refine g_getf C (k := 1) (kd := 0) okX10 (by decide) kf_RX10_34 dX10_lastBlock_1 (rg_ hC T0.1) T0.2.1 rfl ?_
  refine g_if_le C 29 dX10_lastBlock_4 rfl (fun c1 => ?_) (fun c1 => ?_)
  · replace h := if_t h c1
    refine g_iconst C (n := (-1)) dX10_lastBlock_29 (by decide) ?_
    cases h
    exact g_iret C dX10_lastBlock_30 hr hlk
  · replace h := if_f h c1
    refine g_aload_n C (f := 0) dX10_lastBlock_7 0 rfl ?_
    refine g_getf C (k := 1) (kd := 0) okX10 (by decide) kf_RX10_34 dX10_lastBlock_8 (rg_ hC T0.1) T0.2.1 rfl ?_
    refine g_iconst C (n := 4) dX10_lastBlock_11 (by decide) ?_
    refine g_icmp_gt C 29 dX10_lastBlock_12 rfl (fun c2 => ?_) (fun c2 => ?_)
    · replace h := if_t h c2
      refine g_iconst C (n := (-1)) dX10_lastBlock_29 (by decide) ?_
      cases h
      exact g_iret C dX10_lastBlock_30 hr hlk
    · replace h := if_f h c2
      refine g_aload_n C (f := 0) dX10_lastBlock_15 0 rfl ?_
      have F3 := fX10_0 hC T0.1 T0.2.1
      refine g_getR C (k := 0) (o := 1) okX10 (by decide) kf_RX10_9 dX10_lastBlock_16 hC T0.1 T0.2.1 rfl rfl ?_
      refine g_aload_n C (f := 0) dX10_lastBlock_19 0 rfl ?_
      refine g_getf C (k := 1) (kd := 0) okX10 (by decide) kf_RX10_34 dX10_lastBlock_20 (rg_ hC T0.1) T0.2.1 rfl ?_
      refine g_iconst C (n := 1) dX10_lastBlock_23 (by decide) ?_
      refine g_isub C dX10_lastBlock_24 ?_
      obtain ⟨c4, h⟩ := ck_e h
      refine g_iald C 4 dX10_lastBlock_25 (rg_ hC F3.1) F3.2.1 F3.2.2 c4 ?_
      refine g_goto C 30 dX10_lastBlock_26 rfl ?_
      cases h
      exact g_iret C dX10_lastBlock_30 hr hlk
theorem dX4_growAtEnd_0 : decode cX4_growAtEnd 0 = .ok (.iconst 1, 1) := by decide +kernel
theorem dX4_growAtEnd_1 : decode cX4_growAtEnd 1 = .ok (.istore 5, 2) := by decide +kernel
theorem dX4_growAtEnd_3 : decode cX4_growAtEnd 3 = .ok (.iload 5, 2) := by decide +kernel
theorem dX4_growAtEnd_5 : decode cX4_growAtEnd 5 = .ok (.iconst 4, 1) := by decide +kernel
theorem dX4_growAtEnd_6 : decode cX4_growAtEnd 6 = .ok (.if_icmp .ge 118, 3) := by decide +kernel
theorem dX4_growAtEnd_9 : decode cX4_growAtEnd 9 = .ok (.aload_n 1, 1) := by decide +kernel
theorem dX4_growAtEnd_10 : decode cX4_growAtEnd 10 = .ok (.invokevirtual 108, 3) := by decide +kernel
theorem dX4_growAtEnd_13 : decode cX4_growAtEnd 13 = .ok (.istore 6, 2) := by decide +kernel
theorem dX4_growAtEnd_15 : decode cX4_growAtEnd 15 = .ok (.iload 6, 2) := by decide +kernel
theorem dX4_growAtEnd_17 : decode cX4_growAtEnd 17 = .ok (.aload_n 3, 1) := by decide +kernel
theorem dX4_growAtEnd_18 : decode cX4_growAtEnd 18 = .ok (.aload 4, 2) := by decide +kernel
theorem dX4_growAtEnd_20 : decode cX4_growAtEnd 20 = .ok (.invokestatic 112, 3) := by decide +kernel
theorem dX4_growAtEnd_23 : decode cX4_growAtEnd 23 = .ok (.istore 7, 2) := by decide +kernel
theorem dX4_growAtEnd_25 : decode cX4_growAtEnd 25 = .ok (.iload 7, 2) := by decide +kernel
theorem dX4_growAtEnd_27 : decode cX4_growAtEnd 27 = .ok (.iconst (-1), 1) := by decide +kernel
theorem dX4_growAtEnd_28 : decode cX4_growAtEnd 28 = .ok (.if_icmp .ne 7, 3) := by decide +kernel
theorem dX4_growAtEnd_31 : decode cX4_growAtEnd 31 = .ok (.iconst (-1), 1) := by decide +kernel
theorem dX4_growAtEnd_32 : decode cX4_growAtEnd 32 = .ok (.goto 11, 3) := by decide +kernel
theorem dX4_growAtEnd_35 : decode cX4_growAtEnd 35 = .ok (.aload_n 3, 1) := by decide +kernel
theorem dX4_growAtEnd_36 : decode cX4_growAtEnd 36 = .ok (.iload 6, 2) := by decide +kernel
theorem dX4_growAtEnd_38 : decode cX4_growAtEnd 38 = .ok (.iload 7, 2) := by decide +kernel
theorem dX4_growAtEnd_40 : decode cX4_growAtEnd 40 = .ok (.invokevirtual 116, 3) := by decide +kernel
theorem dX4_growAtEnd_43 : decode cX4_growAtEnd 43 = .ok (.istore 8, 2) := by decide +kernel
theorem dX4_growAtEnd_45 : decode cX4_growAtEnd 45 = .ok (.iload 8, 2) := by decide +kernel
theorem dX4_growAtEnd_47 : decode cX4_growAtEnd 47 = .ok (.ifCond .lt 14, 3) := by decide +kernel
theorem dX4_growAtEnd_50 : decode cX4_growAtEnd 50 = .ok (.aload_n 0, 1) := by decide +kernel
theorem dX4_growAtEnd_51 : decode cX4_growAtEnd 51 = .ok (.getfield 17, 3) := by decide +kernel
theorem dX4_growAtEnd_54 : decode cX4_growAtEnd 54 = .ok (.iload 8, 2) := by decide +kernel
theorem dX4_growAtEnd_56 : decode cX4_growAtEnd 56 = .ok (.iaload, 1) := by decide +kernel
theorem dX4_growAtEnd_57 : decode cX4_growAtEnd 57 = .ok (.iconst (-1), 1) := by decide +kernel
theorem dX4_growAtEnd_58 : decode cX4_growAtEnd 58 = .ok (.if_icmp .eq 4, 3) := by decide +kernel
theorem dX4_growAtEnd_61 : decode cX4_growAtEnd 61 = .ok (.return_, 1) := by decide +kernel
theorem dX4_growAtEnd_62 : decode cX4_growAtEnd 62 = .ok (.iload 8, 2) := by decide +kernel
theorem dX4_growAtEnd_64 : decode cX4_growAtEnd 64 = .ok (.aload_n 3, 1) := by decide +kernel
theorem dX4_growAtEnd_65 : decode cX4_growAtEnd 65 = .ok (.aload 4, 2) := by decide +kernel
theorem dX4_growAtEnd_67 : decode cX4_growAtEnd 67 = .ok (.invokestatic 120, 3) := by decide +kernel
theorem dX4_growAtEnd_70 : decode cX4_growAtEnd 70 = .ok (.istore 9, 2) := by decide +kernel
theorem dX4_growAtEnd_72 : decode cX4_growAtEnd 72 = .ok (.iload 9, 2) := by decide +kernel
theorem dX4_growAtEnd_74 : decode cX4_growAtEnd 74 = .ok (.iconst (-1), 1) := by decide +kernel
theorem dX4_growAtEnd_75 : decode cX4_growAtEnd 75 = .ok (.if_icmp .eq 29, 3) := by decide +kernel
theorem dX4_growAtEnd_78 : decode cX4_growAtEnd 78 = .ok (.aload 4, 2) := by decide +kernel
theorem dX4_growAtEnd_80 : decode cX4_growAtEnd 80 = .ok (.iload 9, 2) := by decide +kernel
theorem dX4_growAtEnd_82 : decode cX4_growAtEnd 82 = .ok (.iconst 2, 1) := by decide +kernel
theorem dX4_growAtEnd_83 : decode cX4_growAtEnd 83 = .ok (.idiv, 1) := by decide +kernel
theorem dX4_growAtEnd_84 : decode cX4_growAtEnd 84 = .ok (.iload 9, 2) := by decide +kernel
theorem dX4_growAtEnd_86 : decode cX4_growAtEnd 86 = .ok (.iconst 2, 1) := by decide +kernel
theorem dX4_growAtEnd_87 : decode cX4_growAtEnd 87 = .ok (.irem, 1) := by decide +kernel
theorem dX4_growAtEnd_88 : decode cX4_growAtEnd 88 = .ok (.invokevirtual 123, 3) := by decide +kernel
theorem dX4_growAtEnd_91 : decode cX4_growAtEnd 91 = .ok (.aload 4, 2) := by decide +kernel
theorem dX4_growAtEnd_93 : decode cX4_growAtEnd 93 = .ok (.iload 6, 2) := by decide +kernel
theorem dX4_growAtEnd_95 : decode cX4_growAtEnd 95 = .ok (.iload 7, 2) := by decide +kernel
theorem dX4_growAtEnd_97 : decode cX4_growAtEnd 97 = .ok (.invokevirtual 123, 3) := by decide +kernel
theorem dX4_growAtEnd_100 : decode cX4_growAtEnd 100 = .ok (.if_icmp .le 4, 3) := by decide +kernel
theorem dX4_growAtEnd_103 : decode cX4_growAtEnd 103 = .ok (.return_, 1) := by decide +kernel
theorem dX4_growAtEnd_104 : decode cX4_growAtEnd 104 = .ok (.aload_n 1, 1) := by decide +kernel
theorem dX4_growAtEnd_105 : decode cX4_growAtEnd 105 = .ok (.iload 8, 2) := by decide +kernel
theorem dX4_growAtEnd_107 : decode cX4_growAtEnd 107 = .ok (.invokevirtual 126, 3) := by decide +kernel
theorem dX4_growAtEnd_110 : decode cX4_growAtEnd 110 = .ok (.aload_n 0, 1) := by decide +kernel
theorem dX4_growAtEnd_111 : decode cX4_growAtEnd 111 = .ok (.getfield 17, 3) := by decide +kernel
theorem dX4_growAtEnd_114 : decode cX4_growAtEnd 114 = .ok (.iload 8, 2) := by decide +kernel
theorem dX4_growAtEnd_116 : decode cX4_growAtEnd 116 = .ok (.iload_n 2, 1) := by decide +kernel
theorem dX4_growAtEnd_117 : decode cX4_growAtEnd 117 = .ok (.iastore, 1) := by decide +kernel
theorem dX4_growAtEnd_118 : decode cX4_growAtEnd 118 = .ok (.iinc 5 1, 3) := by decide +kernel
theorem dX4_growAtEnd_121 : decode cX4_growAtEnd 121 = .ok (.goto (-118), 3) := by decide +kernel
theorem dX4_growAtEnd_124 : decode cX4_growAtEnd 124 = .ok (.return_, 1) := by decide +kernel
def fX4_growAtEnd_104 (k3 : Int → Int → Int → Int → Int → Int → V_ → Option (Int × V_)) (x0 x1 x2 x3 x4 x5 x8 : Int) (v : V_) : Option (Int × V_) :=
  bd_ (fX10_growAtEnd x1 x8 v) fun q12 =>
  ck_ (0 ≤ x8 ∧ x8 < 8) (
  lt_ (up_ q12.2 (x0 + 2) x8 x2) fun v15 =>
  lt_ (wr_ (x5 + 1)) fun y16 =>
  k3 x0 x1 x2 x3 x4 y16 v15)
def fX4_growAtEnd_43 (k3 : Int → Int → Int → Int → Int → Int → V_ → Option (Int × V_)) (x0 x1 x2 x3 x4 x5 x6 x7 s0 : Int) (v : V_) : Option (Int × V_) :=
  if s0 < 0 then (
    some (0, v))
  else (
    ck_ (0 ≤ s0 ∧ s0 < 8) (
    if (v (x0 + 2) s0) = (-1) then (
      bd_ (fX4_likelyComing s0 x3 x4 v) fun q10 =>
      if q10.1 = (-1) then (
        fX4_growAtEnd_104 k3 x0 x1 x2 x3 x4 x5 s0 q10.2)
      else (
        bd_ (fX7_goneOf x4 (wr_ (Int.tdiv q10.1 2)) (Int.tmod q10.1 2) q10.2) fun q17 =>
        bd_ (fX7_goneOf x4 x6 x7 q17.2) fun q18 =>
        if q17.1 ≤ q18.1 then (
          fX4_growAtEnd_104 k3 x0 x1 x2 x3 x4 x5 s0 q18.2)
        else (
          some (0, q18.2))))
    else (
      some (0, v))))
def fX4_growAtEnd_3 : Nat → Int → Int → Int → Int → Int → Int → V_ → Option (Int × V_)
  | 0, _, _, _, _, _, _, _ => none
  | n + 1, x0, x1, x2, x3, x4, x5, v =>
    if 4 ≤ x5 then (
      some (0, v))
    else (
      bd_ (fX10_lastBlock x1 v) fun q2 =>
      bd_ (fX4_likelyWay q2.1 x3 x4 q2.2) fun q3 =>
      if q3.1 = (-1) then (
        fX4_growAtEnd_43 (fX4_growAtEnd_3 n) x0 x1 x2 x3 x4 x5 q2.1 q3.1 (-1) q3.2)
      else (
        bd_ (fX5_leadsTo x3 q2.1 q3.1 q3.2) fun q5 =>
        fX4_growAtEnd_43 (fX4_growAtEnd_3 n) x0 x1 x2 x3 x4 x5 q2.1 q3.1 q5.1 q5.2))
def fX4_growAtEnd (x0 x1 x2 x3 x4 : Int) (v : V_) : Option (Int × V_) :=
  fX4_growAtEnd_3 fu_ x0 x1 x2 x3 x4 1 v
section
variable {E : En_} {p : Program} {l : Launch} {e : Env} {s : State} {m : MethodId} {args : Array Value} {below : List Frame} {meth : Method} {c : Code} {sz : Int}
theorem tX4_growAtEnd_104 (C : MC_ E p s m c cX4_growAtEnd 10 RX4) (hr : meth.sig.returnType = (none : Option FieldType)) (hlk : meth.locks = false) (hC : Cl_ E.2.2.2.2.2 sz) {out : Int × V_} (k3 : Int → Int → Int → Int → Int → Int → V_ → Option (Int × V_)) (H_3 : ∀ (x0 x1 x2 x3 x4 x5 : Int) (v : V_), (E.2.2.2.2.2 x0 ∧ ty_ x0 = 4 ∧ ln_ x0 = 0) → (E.2.2.2.2.2 x1 ∧ ty_ x1 = 10 ∧ ln_ x1 = 0) → (E.2.2.2.2.2 x3 ∧ ty_ x3 = 5 ∧ ln_ x3 = 0) → (E.2.2.2.2.2 x4 ∧ ty_ x4 = 7 ∧ ln_ x4 = 0) → k3 x0 x1 x2 x3 x4 x5 v = some out → G_ E p l e (rm_ 2 48) s m args below meth c 10 sz (Q_ E below args s sz sz 9 out.1 out.2) 3 [(0, (2, x0)), (1, (2, x1)), (2, (0, x2)), (3, (2, x3)), (4, (2, x4)), (5, (0, x5))] [] v sz) (x0 x1 x2 x3 x4 x5 x8 : Int) (v : V_) (T0 : (E.2.2.2.2.2 x0 ∧ ty_ x0 = 4 ∧ ln_ x0 = 0)) (T1 : (E.2.2.2.2.2 x1 ∧ ty_ x1 = 10 ∧ ln_ x1 = 0)) (T3 : (E.2.2.2.2.2 x3 ∧ ty_ x3 = 5 ∧ ln_ x3 = 0)) (T4 : (E.2.2.2.2.2 x4 ∧ ty_ x4 = 7 ∧ ln_ x4 = 0)) (h : fX4_growAtEnd_104 k3 x0 x1 x2 x3 x4 x5 x8 v = some out) : G_ E p l e (rm_ 2 48) s m args below meth c 10 sz (Q_ E below args s sz sz 9 out.1 out.2) 104 [(0, (2, x0)), (1, (2, x1)), (2, (0, x2)), (3, (2, x3)), (4, (2, x4)), (5, (0, x5)), (8, (0, x8))] [] v sz := by
  rw [fX4_growAtEnd_104] at h
  refine g_aload_n C (f := 1) dX4_growAtEnd_104 1 rfl ?_
  refine g_iload C (i := 8) dX4_growAtEnd_105 6 rfl ?_
  obtain ⟨q12, eq12, h⟩ := bd_e h
  refine g_cV C [(0, x8)] (cX10_growAtEnd_ok l hC T1 eq12) okX10 T1.2.1 (rg_ hC T1.1) km_RX4_126 cv_X10_growAtEnd rfl (by decide) rfl rfl (Nat.le_of_ble_eq_true rfl) dX4_growAtEnd_107 ?_
  refine g_aload_n C (f := 0) dX4_growAtEnd_110 0 rfl ?_
  have F13 := fX4_3 hC T0.1 T0.2.1
  refine g_getR C (k := 3) (o := 2) okX4 (by decide) kf_RX4_17 dX4_growAtEnd_111 hC T0.1 T0.2.1 rfl rfl ?_
  refine g_iload C (i := 8) dX4_growAtEnd_114 6 rfl ?_
  refine g_iload_n C (f := 2) dX4_growAtEnd_116 2 rfl ?_
  obtain ⟨c14, h⟩ := ck_e h
  obtain ⟨v15, ev15, h⟩ := lt_e h
  refine g_iast C 8 dX4_growAtEnd_117 (rg_ hC F13.1) F13.2.1 F13.2.2 c14 v15 ev15 ?_
  obtain ⟨y16, ey16, h⟩ := lt_e h
  refine g_iincx C (ls' := [(5, (0, y16)), (0, (2, x0)), (1, (2, x1)), (2, (0, x2)), (3, (2, x3)), (4, (2, x4)), (8, (0, x8))]) ey16 dX4_growAtEnd_118 5 rfl (by decide) (by decide) rfl ?_
  refine g_goto C 3 dX4_growAtEnd_121 rfl ?_
  refine g_sub [1, 2, 3, 4, 5, 0] rfl rfl ?_
  exact H_3 _ _ _ _ _ _ _ T0 T1 T3 T4 h
theorem tX4_growAtEnd_43 (C : MC_ E p s m c cX4_growAtEnd 10 RX4) (hr : meth.sig.returnType = (none : Option FieldType)) (hlk : meth.locks = false) (hC : Cl_ E.2.2.2.2.2 sz) {out : Int × V_} (k3 : Int → Int → Int → Int → Int → Int → V_ → Option (Int × V_)) (H_3 : ∀ (x0 x1 x2 x3 x4 x5 : Int) (v : V_), (E.2.2.2.2.2 x0 ∧ ty_ x0 = 4 ∧ ln_ x0 = 0) → (E.2.2.2.2.2 x1 ∧ ty_ x1 = 10 ∧ ln_ x1 = 0) → (E.2.2.2.2.2 x3 ∧ ty_ x3 = 5 ∧ ln_ x3 = 0) → (E.2.2.2.2.2 x4 ∧ ty_ x4 = 7 ∧ ln_ x4 = 0) → k3 x0 x1 x2 x3 x4 x5 v = some out → G_ E p l e (rm_ 2 48) s m args below meth c 10 sz (Q_ E below args s sz sz 9 out.1 out.2) 3 [(0, (2, x0)), (1, (2, x1)), (2, (0, x2)), (3, (2, x3)), (4, (2, x4)), (5, (0, x5))] [] v sz) (x0 x1 x2 x3 x4 x5 x6 x7 s0 : Int) (v : V_) (T0 : (E.2.2.2.2.2 x0 ∧ ty_ x0 = 4 ∧ ln_ x0 = 0)) (T1 : (E.2.2.2.2.2 x1 ∧ ty_ x1 = 10 ∧ ln_ x1 = 0)) (T3 : (E.2.2.2.2.2 x3 ∧ ty_ x3 = 5 ∧ ln_ x3 = 0)) (T4 : (E.2.2.2.2.2 x4 ∧ ty_ x4 = 7 ∧ ln_ x4 = 0)) (h : fX4_growAtEnd_43 k3 x0 x1 x2 x3 x4 x5 x6 x7 s0 v = some out) : G_ E p l e (rm_ 2 48) s m args below meth c 10 sz (Q_ E below args s sz sz 9 out.1 out.2) 43 [(0, (2, x0)), (1, (2, x1)), (2, (0, x2)), (3, (2, x3)), (4, (2, x4)), (5, (0, x5)), (6, (0, x6)), (7, (0, x7))] [(0, s0)] v sz := by
  rw [fX4_growAtEnd_43] at h
  refine g_istore C (i := 8) (ls' := [(8, (0, s0)), (0, (2, x0)), (1, (2, x1)), (2, (0, x2)), (3, (2, x3)), (4, (2, x4)), (5, (0, x5)), (6, (0, x6)), (7, (0, x7))]) dX4_growAtEnd_43 (by decide) rfl ?_
  refine g_iload C (i := 8) dX4_growAtEnd_45 0 rfl ?_
  refine g_if_lt C 61 dX4_growAtEnd_47 rfl (fun c6 => ?_) (fun c6 => ?_)
  · replace h := if_t h c6
    cases h
    exact g_vret C dX4_growAtEnd_61 hr hlk
  · replace h := if_f h c6
    refine g_aload_n C (f := 0) dX4_growAtEnd_50 1 rfl ?_
    have F7 := fX4_3 hC T0.1 T0.2.1
    refine g_getR C (k := 3) (o := 2) okX4 (by decide) kf_RX4_17 dX4_growAtEnd_51 hC T0.1 T0.2.1 rfl rfl ?_
    refine g_iload C (i := 8) dX4_growAtEnd_54 0 rfl ?_
    obtain ⟨c8, h⟩ := ck_e h
    refine g_iald C 8 dX4_growAtEnd_56 (rg_ hC F7.1) F7.2.1 F7.2.2 c8 ?_
    refine g_iconst C (n := (-1)) dX4_growAtEnd_57 (by decide) ?_
    refine g_icmp_eq C 62 dX4_growAtEnd_58 rfl (fun c9 => ?_) (fun c9 => ?_)
    · replace h := if_t h c9
      refine g_iload C (i := 8) dX4_growAtEnd_62 0 rfl ?_
      refine g_aload_n C (f := 3) dX4_growAtEnd_64 4 rfl ?_
      refine g_aload C (i := 4) dX4_growAtEnd_65 5 rfl ?_
      obtain ⟨q10, eq10, h⟩ := bd_e h
      refine g_cS C [(0, s0), (2, x3), (2, x4)] (cX4_likelyComing_ok l hC T3 T4 eq10) km_RX4_120 cs_X4_likelyComing rfl (by decide) rfl rfl (Nat.le_of_ble_eq_true rfl) dX4_growAtEnd_67 ?_
      refine g_istore C (i := 9) (ls' := [(9, (0, q10.1)), (8, (0, s0)), (0, (2, x0)), (1, (2, x1)), (2, (0, x2)), (3, (2, x3)), (4, (2, x4)), (5, (0, x5)), (6, (0, x6)), (7, (0, x7))]) dX4_growAtEnd_70 (by decide) rfl ?_
      refine g_iload C (i := 9) dX4_growAtEnd_72 0 rfl ?_
      refine g_iconst C (n := (-1)) dX4_growAtEnd_74 (by decide) ?_
      refine g_icmp_eq C 104 dX4_growAtEnd_75 rfl (fun c11 => ?_) (fun c11 => ?_)
      · replace h := if_t h c11
        refine g_sub [2, 3, 4, 5, 6, 7, 1] rfl rfl ?_
        exact tX4_growAtEnd_104 C hr hlk hC _ H_3 _ _ _ _ _ _ _ _ T0 T1 T3 T4 h
      · replace h := if_f h c11
        refine g_aload C (i := 4) dX4_growAtEnd_78 6 rfl ?_
        refine g_iload C (i := 9) dX4_growAtEnd_80 0 rfl ?_
        refine g_iconst C (n := 2) dX4_growAtEnd_82 (by decide) ?_
        refine g_idiv C dX4_growAtEnd_83 (by decide) ?_
        refine g_iload C (i := 9) dX4_growAtEnd_84 0 rfl ?_
        refine g_iconst C (n := 2) dX4_growAtEnd_86 (by decide) ?_
        refine g_irem C dX4_growAtEnd_87 (by decide) ?_
        obtain ⟨q17, eq17, h⟩ := bd_e h
        refine g_cV C [(0, wr_ (Int.tdiv q10.1 2)), (0, Int.tmod q10.1 2)] (cX7_goneOf_ok l hC T4 eq17) okX7 T4.2.1 (rg_ hC T4.1) km_RX4_123 cv_X7_goneOf rfl (by decide) rfl rfl (Nat.le_of_ble_eq_true rfl) dX4_growAtEnd_88 ?_
        refine g_aload C (i := 4) dX4_growAtEnd_91 6 rfl ?_
        refine g_iload C (i := 6) dX4_growAtEnd_93 8 rfl ?_
        refine g_iload C (i := 7) dX4_growAtEnd_95 9 rfl ?_
        obtain ⟨q18, eq18, h⟩ := bd_e h
        refine g_cV C [(0, x6), (0, x7)] (cX7_goneOf_ok l hC T4 eq18) okX7 T4.2.1 (rg_ hC T4.1) km_RX4_123 cv_X7_goneOf rfl (by decide) rfl rfl (Nat.le_of_ble_eq_true rfl) dX4_growAtEnd_97 ?_
        refine g_icmp_le C 104 dX4_growAtEnd_100 rfl (fun c19 => ?_) (fun c19 => ?_)
        · replace h := if_t h c19
          refine g_sub [2, 3, 4, 5, 6, 7, 1] rfl rfl ?_
          exact tX4_growAtEnd_104 C hr hlk hC _ H_3 _ _ _ _ _ _ _ _ T0 T1 T3 T4 h
        · replace h := if_f h c19
          cases h
          exact g_vret C dX4_growAtEnd_103 hr hlk
    · replace h := if_f h c9
      cases h
      exact g_vret C dX4_growAtEnd_61 hr hlk
theorem tX4_growAtEnd_3 (C : MC_ E p s m c cX4_growAtEnd 10 RX4) (hr : meth.sig.returnType = (none : Option FieldType)) (hlk : meth.locks = false) (hC : Cl_ E.2.2.2.2.2 sz) {out : Int × V_} : ∀ (n : Nat) (x0 x1 x2 x3 x4 x5 : Int) (v : V_), (E.2.2.2.2.2 x0 ∧ ty_ x0 = 4 ∧ ln_ x0 = 0) → (E.2.2.2.2.2 x1 ∧ ty_ x1 = 10 ∧ ln_ x1 = 0) → (E.2.2.2.2.2 x3 ∧ ty_ x3 = 5 ∧ ln_ x3 = 0) → (E.2.2.2.2.2 x4 ∧ ty_ x4 = 7 ∧ ln_ x4 = 0) → fX4_growAtEnd_3 n x0 x1 x2 x3 x4 x5 v = some out → G_ E p l e (rm_ 2 48) s m args below meth c 10 sz (Q_ E below args s sz sz 9 out.1 out.2) 3 [(0, (2, x0)), (1, (2, x1)), (2, (0, x2)), (3, (2, x3)), (4, (2, x4)), (5, (0, x5))] [] v sz := by
  intro n
  induction n with
  | zero =>
    intro x0 x1 x2 x3 x4 x5 v T0 T1 T3 T4 h
    cases h
  | succ n H_3 =>
    intro x0 x1 x2 x3 x4 x5 v T0 T1 T3 T4 h
    rw [fX4_growAtEnd_3] at h
    refine g_iload C (i := 5) dX4_growAtEnd_3 5 rfl ?_
    refine g_iconst C (n := 4) dX4_growAtEnd_5 (by decide) ?_
    refine g_icmp_ge C 124 dX4_growAtEnd_6 rfl (fun c1 => ?_) (fun c1 => ?_)
    · replace h := if_t h c1
      cases h
      exact g_vret C dX4_growAtEnd_124 hr hlk
    · replace h := if_f h c1
      refine g_aload_n C (f := 1) dX4_growAtEnd_9 1 rfl ?_
      obtain ⟨q2, eq2, h⟩ := bd_e h
      refine g_cV C [] (cX10_lastBlock_ok l hC T1 eq2) okX10 T1.2.1 (rg_ hC T1.1) km_RX4_108 cv_X10_lastBlock rfl (by decide) rfl rfl (Nat.le_of_ble_eq_true rfl) dX4_growAtEnd_10 ?_
      refine g_istore C (i := 6) (ls' := [(6, (0, q2.1)), (0, (2, x0)), (1, (2, x1)), (2, (0, x2)), (3, (2, x3)), (4, (2, x4)), (5, (0, x5))]) dX4_growAtEnd_13 (by decide) rfl ?_
      refine g_iload C (i := 6) dX4_growAtEnd_15 0 rfl ?_
      refine g_aload_n C (f := 3) dX4_growAtEnd_17 4 rfl ?_
      refine g_aload C (i := 4) dX4_growAtEnd_18 5 rfl ?_
      obtain ⟨q3, eq3, h⟩ := bd_e h
      refine g_cS C [(0, q2.1), (2, x3), (2, x4)] (cX4_likelyWay_ok l hC T3 T4 eq3) km_RX4_112 cs_X4_likelyWay rfl (by decide) rfl rfl (Nat.le_of_ble_eq_true rfl) dX4_growAtEnd_20 ?_
      refine g_istore C (i := 7) (ls' := [(7, (0, q3.1)), (6, (0, q2.1)), (0, (2, x0)), (1, (2, x1)), (2, (0, x2)), (3, (2, x3)), (4, (2, x4)), (5, (0, x5))]) dX4_growAtEnd_23 (by decide) rfl ?_
      refine g_iload C (i := 7) dX4_growAtEnd_25 0 rfl ?_
      refine g_iconst C (n := (-1)) dX4_growAtEnd_27 (by decide) ?_
      refine g_icmp_ne C 35 dX4_growAtEnd_28 rfl (fun c4 => ?_) (fun c4 => ?_)
      · replace h := if_f h c4
        refine g_aload_n C (f := 3) dX4_growAtEnd_35 5 rfl ?_
        refine g_iload C (i := 6) dX4_growAtEnd_36 1 rfl ?_
        refine g_iload C (i := 7) dX4_growAtEnd_38 0 rfl ?_
        obtain ⟨q5, eq5, h⟩ := bd_e h
        refine g_cV C [(0, q2.1), (0, q3.1)] (cX5_leadsTo_ok l hC T3 eq5) okX5 T3.2.1 (rg_ hC T3.1) km_RX4_116 cv_X5_leadsTo rfl (by decide) rfl rfl (Nat.le_of_ble_eq_true rfl) dX4_growAtEnd_40 ?_
        refine g_sub [2, 3, 4, 5, 6, 7, 1, 0] rfl rfl ?_
        exact tX4_growAtEnd_43 C hr hlk hC _ H_3 _ _ _ _ _ _ _ _ _ _ T0 T1 T3 T4 h
      · replace h := if_t h c4
        refine g_iconst C (n := (-1)) dX4_growAtEnd_31 (by decide) ?_
        refine g_goto C 43 dX4_growAtEnd_32 rfl ?_
        refine g_sub [2, 3, 4, 5, 6, 7, 1, 0] rfl rfl ?_
        exact tX4_growAtEnd_43 C hr hlk hC _ H_3 _ _ _ _ _ _ _ _ _ _ T0 T1 T3 T4 h
end
theorem cX4_growAtEnd_ok (l : Launch) {E : En_} {sz : Int} (hC : Cl_ E.2.2.2.2.2 sz) {x0 x1 x2 x3 x4 : Int} {v : V_} {out : Int × V_} (T0 : (E.2.2.2.2.2 x0 ∧ ty_ x0 = 4 ∧ ln_ x0 = 0)) (T1 : (E.2.2.2.2.2 x1 ∧ ty_ x1 = 10 ∧ ln_ x1 = 0)) (T3 : (E.2.2.2.2.2 x3 ∧ ty_ x3 = 5 ∧ ln_ x3 = 0)) (T4 : (E.2.2.2.2.2 x4 ∧ ty_ x4 = 7 ∧ ln_ x4 = 0)) (h : fX4_growAtEnd x0 x1 x2 x3 x4 v = some out) : Met l yX4_growAtEnd [.code yX4_growAtEnd cX4_growAtEnd 10 (none : Option FieldType)] (rm_ 2 48) (Pc_ E sz v [(2, x0), (2, x1), (0, x2), (2, x3), (2, x4)]) (Qc_ E sz 9 out.1 out.2) 0 0 (fun q => E.1 < q) := by
  refine met_G0 RX4 (by decide +kernel) rfl (Nat.le_of_ble_eq_true rfl) ?_
  intro p e s m args below meth c C hr hlk
  rw [fX4_growAtEnd] at h
  refine g_iconst C (n := 1) dX4_growAtEnd_0 (by decide) ?_
  refine g_istore C (i := 5) (ls' := [(5, (0, 1)), (0, (2, x0)), (1, (2, x1)), (2, (0, x2)), (3, (2, x3)), (4, (2, x4))]) dX4_growAtEnd_1 (by decide) rfl ?_
  refine g_sub [1, 2, 3, 4, 5, 0] rfl rfl ?_
  exact tX4_growAtEnd_3 C hr hlk hC _ _ _ _ _ _ _ _ T0 T1 T3 T4 h
theorem dX7_begunOf_0 : decode cX7_begunOf 0 = .ok (.aload_n 0, 1) := by decide +kernel
theorem dX7_begunOf_1 : decode cX7_begunOf 1 = .ok (.getfield 11, 3) := by decide +kernel
theorem dX7_begunOf_4 : decode cX7_begunOf 4 = .ok (.bipush 14, 2) := by decide +kernel
theorem dX7_begunOf_6 : decode cX7_begunOf 6 = .ok (.iload_n 1, 1) := by decide +kernel
theorem dX7_begunOf_7 : decode cX7_begunOf 7 = .ok (.iadd, 1) := by decide +kernel
theorem dX7_begunOf_8 : decode cX7_begunOf 8 = .ok (.iaload, 1) := by decide +kernel
theorem dX7_begunOf_9 : decode cX7_begunOf 9 = .ok (.ireturn, 1) := by decide +kernel
def fX7_begunOf (x0 x1 : Int) (v : V_) : Option (Int × V_) :=
  ck_ (0 ≤ wr_ (14 + x1) ∧ wr_ (14 + x1) < 47) (
  some (v (x0 + 1) (wr_ (14 + x1)), v))
theorem cX7_begunOf_ok (l : Launch) {E : En_} {sz : Int} (hC : Cl_ E.2.2.2.2.2 sz) {x0 x1 : Int} {v : V_} {out : Int × V_} (T0 : (E.2.2.2.2.2 x0 ∧ ty_ x0 = 7 ∧ ln_ x0 = 0)) (h : fX7_begunOf x0 x1 v = some out) : Met l yX7_begunOf [.code yX7_begunOf cX7_begunOf 2 (some FieldType.int)] (rm_ 0 0) (Pc_ E sz v [(2, x0), (0, x1)]) (Qc_ E sz 0 out.1 out.2) 0 0 (fun q => E.1 < q) := by
  refine met_G0 RX7 (by decide +kernel) rfl (Nat.le_of_ble_eq_true rfl) ?_
  intro p e s m args below meth c C hr hlk
  rw [fX7_begunOf] at h
  refine g_aload_n C (f := 0) dX7_begunOf_0 0 rfl ?_
  have F1 := fX7_0 hC T0.1 T0.2.1
  refine g_getR C (k := 0) (o := 1) okX7 (by decide) kf_RX7_11 dX7_begunOf_1 hC T0.1 T0.2.1 rfl rfl ?_
  refine g_bipush C (n := 14) dX7_begunOf_4 (by decide) ?_
  refine g_iload_n C (f := 1) dX7_begunOf_6 1 rfl ?_
  refine g_iadd C dX7_begunOf_7 ?_
  obtain ⟨c2, h⟩ := ck_e h
  refine g_iald C 47 dX7_begunOf_8 (rg_ hC F1.1) F1.2.1 F1.2.2 c2 ?_
  cases h
  exact g_iret C dX7_begunOf_9 hr hlk
theorem dX4_mostBegun_0 : decode cX4_mostBegun 0 = .ok (.iconst (-1), 1) := by decide +kernel
theorem dX4_mostBegun_1 : decode cX4_mostBegun 1 = .ok (.istore_n 3, 1) := by decide +kernel
theorem dX4_mostBegun_2 : decode cX4_mostBegun 2 = .ok (.iconst 0, 1) := by decide +kernel
theorem dX4_mostBegun_3 : decode cX4_mostBegun 3 = .ok (.istore 4, 2) := by decide +kernel
theorem dX4_mostBegun_5 : decode cX4_mostBegun 5 = .ok (.iload 4, 2) := by decide +kernel
theorem dX4_mostBegun_7 : decode cX4_mostBegun 7 = .ok (.aload_n 1, 1) := by decide +kernel
theorem dX4_mostBegun_8 : decode cX4_mostBegun 8 = .ok (.getfield 101, 3) := by decide +kernel
theorem dX4_mostBegun_11 : decode cX4_mostBegun 11 = .ok (.if_icmp .ge 42, 3) := by decide +kernel
theorem dX4_mostBegun_14 : decode cX4_mostBegun 14 = .ok (.aload_n 0, 1) := by decide +kernel
theorem dX4_mostBegun_15 : decode cX4_mostBegun 15 = .ok (.getfield 17, 3) := by decide +kernel
theorem dX4_mostBegun_18 : decode cX4_mostBegun 18 = .ok (.iload 4, 2) := by decide +kernel
theorem dX4_mostBegun_20 : decode cX4_mostBegun 20 = .ok (.iaload, 1) := by decide +kernel
theorem dX4_mostBegun_21 : decode cX4_mostBegun 21 = .ok (.iconst (-1), 1) := by decide +kernel
theorem dX4_mostBegun_22 : decode cX4_mostBegun 22 = .ok (.if_icmp .ne 25, 3) := by decide +kernel
theorem dX4_mostBegun_25 : decode cX4_mostBegun 25 = .ok (.iload_n 3, 1) := by decide +kernel
theorem dX4_mostBegun_26 : decode cX4_mostBegun 26 = .ok (.iconst (-1), 1) := by decide +kernel
theorem dX4_mostBegun_27 : decode cX4_mostBegun 27 = .ok (.if_icmp .eq 17, 3) := by decide +kernel
theorem dX4_mostBegun_30 : decode cX4_mostBegun 30 = .ok (.aload_n 2, 1) := by decide +kernel
theorem dX4_mostBegun_31 : decode cX4_mostBegun 31 = .ok (.iload 4, 2) := by decide +kernel
theorem dX4_mostBegun_33 : decode cX4_mostBegun 33 = .ok (.invokevirtual 105, 3) := by decide +kernel
theorem dX4_mostBegun_36 : decode cX4_mostBegun 36 = .ok (.aload_n 2, 1) := by decide +kernel
theorem dX4_mostBegun_37 : decode cX4_mostBegun 37 = .ok (.iload_n 3, 1) := by decide +kernel
theorem dX4_mostBegun_38 : decode cX4_mostBegun 38 = .ok (.invokevirtual 105, 3) := by decide +kernel
theorem dX4_mostBegun_41 : decode cX4_mostBegun 41 = .ok (.if_icmp .le 6, 3) := by decide +kernel
theorem dX4_mostBegun_44 : decode cX4_mostBegun 44 = .ok (.iload 4, 2) := by decide +kernel
theorem dX4_mostBegun_46 : decode cX4_mostBegun 46 = .ok (.istore_n 3, 1) := by decide +kernel
theorem dX4_mostBegun_47 : decode cX4_mostBegun 47 = .ok (.iinc 4 1, 3) := by decide +kernel
theorem dX4_mostBegun_50 : decode cX4_mostBegun 50 = .ok (.goto (-45), 3) := by decide +kernel
theorem dX4_mostBegun_53 : decode cX4_mostBegun 53 = .ok (.iload_n 3, 1) := by decide +kernel
theorem dX4_mostBegun_54 : decode cX4_mostBegun 54 = .ok (.ireturn, 1) := by decide +kernel
def fX4_mostBegun_44 (k5 : Int → Int → Int → Int → Int → V_ → Option (Int × V_)) (x0 x1 x2 x4 : Int) (v : V_) : Option (Int × V_) :=
  lt_ (wr_ (x4 + 1)) fun y7 =>
  k5 x0 x1 x2 x4 y7 v
def fX4_mostBegun_5 : Nat → Int → Int → Int → Int → Int → V_ → Option (Int × V_)
  | 0, _, _, _, _, _, _ => none
  | n + 1, x0, x1, x2, x3, x4, v =>
    if (v x1 0) ≤ x4 then (
      some (x3, v))
    else (
      ck_ (0 ≤ x4 ∧ x4 < 8) (
      if (v (x0 + 2) x4) = (-1) then (
        if x3 = (-1) then (
          fX4_mostBegun_44 (fX4_mostBegun_5 n) x0 x1 x2 x4 v)
        else (
          bd_ (fX7_begunOf x2 x4 v) fun q8 =>
          bd_ (fX7_begunOf x2 x3 q8.2) fun q9 =>
          if q8.1 ≤ q9.1 then (
            lt_ (wr_ (x4 + 1)) fun y11 =>
            (fX4_mostBegun_5 n) x0 x1 x2 x3 y11 q9.2)
          else (
            fX4_mostBegun_44 (fX4_mostBegun_5 n) x0 x1 x2 x4 q9.2)))
      else (
        lt_ (wr_ (x4 + 1)) fun y5 =>
        (fX4_mostBegun_5 n) x0 x1 x2 x3 y5 v)))
def fX4_mostBegun (x0 x1 x2 : Int) (v : V_) : Option (Int × V_) :=
  fX4_mostBegun_5 fu_ x0 x1 x2 (-1) 0 v
section
variable {E : En_} {p : Program} {l : Launch} {e : Env} {s : State} {m : MethodId} {args : Array Value} {below : List Frame} {meth : Method} {c : Code} {sz : Int}
theorem tX4_mostBegun_44 (C : MC_ E p s m c cX4_mostBegun 5 RX4) (hr : meth.sig.returnType = (some FieldType.int)) (hlk : meth.locks = false) (hC : Cl_ E.2.2.2.2.2 sz) {out : Int × V_} (k5 : Int → Int → Int → Int → Int → V_ → Option (Int × V_)) (H_5 : ∀ (x0 x1 x2 x3 x4 : Int) (v : V_), (E.2.2.2.2.2 x0 ∧ ty_ x0 = 4 ∧ ln_ x0 = 0) → (E.2.2.2.2.2 x1 ∧ ty_ x1 = 5 ∧ ln_ x1 = 0) → (E.2.2.2.2.2 x2 ∧ ty_ x2 = 7 ∧ ln_ x2 = 0) → k5 x0 x1 x2 x3 x4 v = some out → G_ E p l e (rm_ 1 21) s m args below meth c 5 sz (Q_ E below args s sz sz 0 out.1 out.2) 5 [(0, (2, x0)), (1, (2, x1)), (2, (2, x2)), (3, (0, x3)), (4, (0, x4))] [] v sz) (x0 x1 x2 x4 : Int) (v : V_) (T0 : (E.2.2.2.2.2 x0 ∧ ty_ x0 = 4 ∧ ln_ x0 = 0)) (T1 : (E.2.2.2.2.2 x1 ∧ ty_ x1 = 5 ∧ ln_ x1 = 0)) (T2 : (E.2.2.2.2.2 x2 ∧ ty_ x2 = 7 ∧ ln_ x2 = 0)) (h : fX4_mostBegun_44 k5 x0 x1 x2 x4 v = some out) : G_ E p l e (rm_ 1 21) s m args below meth c 5 sz (Q_ E below args s sz sz 0 out.1 out.2) 44 [(0, (2, x0)), (1, (2, x1)), (2, (2, x2)), (4, (0, x4))] [] v sz := by
  rw [fX4_mostBegun_44] at h
  refine g_iload C (i := 4) dX4_mostBegun_44 3 rfl ?_
  refine g_istore_n C (f := 3) (ls' := [(3, (0, x4)), (0, (2, x0)), (1, (2, x1)), (2, (2, x2)), (4, (0, x4))]) dX4_mostBegun_46 (by decide) rfl ?_
  obtain ⟨y7, ey7, h⟩ := lt_e h
  refine g_iincx C (ls' := [(4, (0, y7)), (3, (0, x4)), (0, (2, x0)), (1, (2, x1)), (2, (2, x2))]) ey7 dX4_mostBegun_47 4 rfl (by decide) (by decide) rfl ?_
  refine g_goto C 5 dX4_mostBegun_50 rfl ?_
  refine g_sub [2, 3, 4, 1, 0] rfl rfl ?_
  exact H_5 _ _ _ _ _ _ T0 T1 T2 h
theorem tX4_mostBegun_5 (C : MC_ E p s m c cX4_mostBegun 5 RX4) (hr : meth.sig.returnType = (some FieldType.int)) (hlk : meth.locks = false) (hC : Cl_ E.2.2.2.2.2 sz) {out : Int × V_} : ∀ (n : Nat) (x0 x1 x2 x3 x4 : Int) (v : V_), (E.2.2.2.2.2 x0 ∧ ty_ x0 = 4 ∧ ln_ x0 = 0) → (E.2.2.2.2.2 x1 ∧ ty_ x1 = 5 ∧ ln_ x1 = 0) → (E.2.2.2.2.2 x2 ∧ ty_ x2 = 7 ∧ ln_ x2 = 0) → fX4_mostBegun_5 n x0 x1 x2 x3 x4 v = some out → G_ E p l e (rm_ 1 21) s m args below meth c 5 sz (Q_ E below args s sz sz 0 out.1 out.2) 5 [(0, (2, x0)), (1, (2, x1)), (2, (2, x2)), (3, (0, x3)), (4, (0, x4))] [] v sz := by
  intro n
  induction n with
  | zero =>
    intro x0 x1 x2 x3 x4 v T0 T1 T2 h
    cases h
  | succ n H_5 =>
    intro x0 x1 x2 x3 x4 v T0 T1 T2 h
    rw [fX4_mostBegun_5] at h
    refine g_iload C (i := 4) dX4_mostBegun_5 4 rfl ?_
    refine g_aload_n C (f := 1) dX4_mostBegun_7 1 rfl ?_
    refine g_getf C (k := 0) (kd := 0) okX5 (by decide) kf_RX4_101 dX4_mostBegun_8 (rg_ hC T1.1) T1.2.1 rfl ?_
    refine g_icmp_ge C 53 dX4_mostBegun_11 rfl (fun c1 => ?_) (fun c1 => ?_)
    · replace h := if_t h c1
      refine g_iload_n C (f := 3) dX4_mostBegun_53 3 rfl ?_
      cases h
      exact g_iret C dX4_mostBegun_54 hr hlk
    · replace h := if_f h c1
      refine g_aload_n C (f := 0) dX4_mostBegun_14 0 rfl ?_
      have F2 := fX4_3 hC T0.1 T0.2.1
      refine g_getR C (k := 3) (o := 2) okX4 (by decide) kf_RX4_17 dX4_mostBegun_15 hC T0.1 T0.2.1 rfl rfl ?_
      refine g_iload C (i := 4) dX4_mostBegun_18 4 rfl ?_
      obtain ⟨c3, h⟩ := ck_e h
      refine g_iald C 8 dX4_mostBegun_20 (rg_ hC F2.1) F2.2.1 F2.2.2 c3 ?_
      refine g_iconst C (n := (-1)) dX4_mostBegun_21 (by decide) ?_
      refine g_icmp_ne C 47 dX4_mostBegun_22 rfl (fun c4 => ?_) (fun c4 => ?_)
      · replace h := if_f h c4
        obtain ⟨y5, ey5, h⟩ := lt_e h
        refine g_iincx C (ls' := [(4, (0, y5)), (0, (2, x0)), (1, (2, x1)), (2, (2, x2)), (3, (0, x3))]) ey5 dX4_mostBegun_47 4 rfl (by decide) (by decide) rfl ?_
        refine g_goto C 5 dX4_mostBegun_50 rfl ?_
        refine g_sub [1, 2, 3, 4, 0] rfl rfl ?_
        exact H_5 _ _ _ _ _ _ T0 T1 T2 h
      · replace h := if_t h c4
        refine g_iload_n C (f := 3) dX4_mostBegun_25 3 rfl ?_
        refine g_iconst C (n := (-1)) dX4_mostBegun_26 (by decide) ?_
        refine g_icmp_eq C 44 dX4_mostBegun_27 rfl (fun c6 => ?_) (fun c6 => ?_)
        · replace h := if_t h c6
          refine g_sub [0, 1, 2, 4] rfl rfl ?_
          exact tX4_mostBegun_44 C hr hlk hC _ H_5 _ _ _ _ _ T0 T1 T2 h
        · replace h := if_f h c6
          refine g_aload_n C (f := 2) dX4_mostBegun_30 2 rfl ?_
          refine g_iload C (i := 4) dX4_mostBegun_31 4 rfl ?_
          obtain ⟨q8, eq8, h⟩ := bd_e h
          refine g_cV C [(0, x4)] (cX7_begunOf_ok l hC T2 eq8) okX7 T2.2.1 (rg_ hC T2.1) km_RX4_105 cv_X7_begunOf rfl (by decide) rfl rfl (Nat.le_of_ble_eq_true rfl) dX4_mostBegun_33 ?_
          refine g_aload_n C (f := 2) dX4_mostBegun_36 2 rfl ?_
          refine g_iload_n C (f := 3) dX4_mostBegun_37 3 rfl ?_
          obtain ⟨q9, eq9, h⟩ := bd_e h
          refine g_cV C [(0, x3)] (cX7_begunOf_ok l hC T2 eq9) okX7 T2.2.1 (rg_ hC T2.1) km_RX4_105 cv_X7_begunOf rfl (by decide) rfl rfl (Nat.le_of_ble_eq_true rfl) dX4_mostBegun_38 ?_
          refine g_icmp_le C 47 dX4_mostBegun_41 rfl (fun c10 => ?_) (fun c10 => ?_)
          · replace h := if_t h c10
            obtain ⟨y11, ey11, h⟩ := lt_e h
            refine g_iincx C (ls' := [(4, (0, y11)), (0, (2, x0)), (1, (2, x1)), (2, (2, x2)), (3, (0, x3))]) ey11 dX4_mostBegun_47 4 rfl (by decide) (by decide) rfl ?_
            refine g_goto C 5 dX4_mostBegun_50 rfl ?_
            refine g_sub [1, 2, 3, 4, 0] rfl rfl ?_
            exact H_5 _ _ _ _ _ _ T0 T1 T2 h
          · replace h := if_f h c10
            refine g_sub [0, 1, 2, 4] rfl rfl ?_
            exact tX4_mostBegun_44 C hr hlk hC _ H_5 _ _ _ _ _ T0 T1 T2 h
end
theorem cX4_mostBegun_ok (l : Launch) {E : En_} {sz : Int} (hC : Cl_ E.2.2.2.2.2 sz) {x0 x1 x2 : Int} {v : V_} {out : Int × V_} (T0 : (E.2.2.2.2.2 x0 ∧ ty_ x0 = 4 ∧ ln_ x0 = 0)) (T1 : (E.2.2.2.2.2 x1 ∧ ty_ x1 = 5 ∧ ln_ x1 = 0)) (T2 : (E.2.2.2.2.2 x2 ∧ ty_ x2 = 7 ∧ ln_ x2 = 0)) (h : fX4_mostBegun x0 x1 x2 v = some out) : Met l yX4_mostBegun [.code yX4_mostBegun cX4_mostBegun 5 (some FieldType.int)] (rm_ 1 21) (Pc_ E sz v [(2, x0), (2, x1), (2, x2)]) (Qc_ E sz 0 out.1 out.2) 0 0 (fun q => E.1 < q) := by
  refine met_G0 RX4 (by decide +kernel) rfl (Nat.le_of_ble_eq_true rfl) ?_
  intro p e s m args below meth c C hr hlk
  rw [fX4_mostBegun] at h
  refine g_iconst C (n := (-1)) dX4_mostBegun_0 (by decide) ?_
  refine g_istore_n C (f := 3) (ls' := [(3, (0, (-1))), (0, (2, x0)), (1, (2, x1)), (2, (2, x2))]) dX4_mostBegun_1 (by decide) rfl ?_
  refine g_iconst C (n := 0) dX4_mostBegun_2 (by decide) ?_
  refine g_istore C (i := 4) (ls' := [(4, (0, 0)), (3, (0, (-1))), (0, (2, x0)), (1, (2, x1)), (2, (2, x2))]) dX4_mostBegun_3 (by decide) rfl ?_
  refine g_sub [2, 3, 4, 1, 0] rfl rfl ?_
  exact tX4_mostBegun_5 C hr hlk hC _ _ _ _ _ _ _ T0 T1 T2 h
