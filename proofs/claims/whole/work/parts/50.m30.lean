theorem dX12_gone_0 : decode cX12_gone 0 = .ok (.aload_n 0, 1) := by decide +kernel
theorem dX12_gone_1 : decode cX12_gone 1 = .ok (.iload_n 1, 1) := by decide +kernel
theorem dX12_gone_2 : decode cX12_gone 2 = .ok (.invokevirtual 415, 3) := by decide +kernel
theorem dX12_gone_5 : decode cX12_gone 5 = .ok (.ifCond .eq 34, 3) := by decide +kernel
theorem dX12_gone_8 : decode cX12_gone 8 = .ok (.iload_n 2, 1) := by decide +kernel
theorem dX12_gone_9 : decode cX12_gone 9 = .ok (.iconst 0, 1) := by decide +kernel
theorem dX12_gone_10 : decode cX12_gone 10 = .ok (.aload_n 0, 1) := by decide +kernel
theorem dX12_gone_11 : decode cX12_gone 11 = .ok (.iload_n 1, 1) := by decide +kernel
theorem dX12_gone_12 : decode cX12_gone 12 = .ok (.invokevirtual 393, 3) := by decide +kernel
theorem dX12_gone_15 : decode cX12_gone 15 = .ok (.iconst 1, 1) := by decide +kernel
theorem dX12_gone_16 : decode cX12_gone 16 = .ok (.isub, 1) := by decide +kernel
theorem dX12_gone_17 : decode cX12_gone 17 = .ok (.invokestatic 334, 3) := by decide +kernel
theorem dX12_gone_20 : decode cX12_gone 20 = .ok (.ifCond .eq 19, 3) := by decide +kernel
theorem dX12_gone_23 : decode cX12_gone 23 = .ok (.aload_n 0, 1) := by decide +kernel
theorem dX12_gone_24 : decode cX12_gone 24 = .ok (.getfield 85, 3) := by decide +kernel
theorem dX12_gone_27 : decode cX12_gone 27 = .ok (.bipush 22, 2) := by decide +kernel
theorem dX12_gone_29 : decode cX12_gone 29 = .ok (.iconst 2, 1) := by decide +kernel
theorem dX12_gone_30 : decode cX12_gone 30 = .ok (.iload_n 1, 1) := by decide +kernel
theorem dX12_gone_31 : decode cX12_gone 31 = .ok (.imul, 1) := by decide +kernel
theorem dX12_gone_32 : decode cX12_gone 32 = .ok (.iadd, 1) := by decide +kernel
theorem dX12_gone_33 : decode cX12_gone 33 = .ok (.iload_n 2, 1) := by decide +kernel
theorem dX12_gone_34 : decode cX12_gone 34 = .ok (.iadd, 1) := by decide +kernel
theorem dX12_gone_35 : decode cX12_gone 35 = .ok (.iaload, 1) := by decide +kernel
theorem dX12_gone_36 : decode cX12_gone 36 = .ok (.goto 4, 3) := by decide +kernel
theorem dX12_gone_39 : decode cX12_gone 39 = .ok (.iconst (-1), 1) := by decide +kernel
theorem dX12_gone_40 : decode cX12_gone 40 = .ok (.ireturn, 1) := by decide +kernel
def fX12_gone (x0 x1 x2 : Int) (v : V_) : Option (Int × V_) :=
  bd_ (fX12_isBlock x0 x1 v) fun q1 =>
  if q1.1 = 0 then (
    some ((-1), q1.2))
  else (
    bd_ (fX12_waysOf x0 x1 q1.2) fun q3 =>
    bd_ (fX12_in x2 0 (wr_ (q3.1 - 1)) q3.2) fun q4 =>
    if q4.1 = 0 then (
      some ((-1), q4.2))
    else (
      ck_ (0 ≤ wr_ ((wr_ (22 + (wr_ (2 * x1)))) + x2) ∧ wr_ ((wr_ (22 + (wr_ (2 * x1)))) + x2) < 47) (
      some (q4.2 (x0 + 23) (wr_ ((wr_ (22 + (wr_ (2 * x1)))) + x2)), q4.2))))
theorem cX12_gone_ok (l : Launch) {E : En_} {sz : Int} (hC : Cl_ E.2.2.2.2.2 sz) {x0 x1 x2 : Int} {v : V_} {out : Int × V_} (T0 : (E.2.2.2.2.2 x0 ∧ ty_ x0 = 12 ∧ ln_ x0 = 0)) (h : fX12_gone x0 x1 x2 v = some out) : Met l yX12_gone [.code yX12_gone cX12_gone 3 (some FieldType.int)] (rm_ 2 43) (Pc_ E sz v [(2, x0), (0, x1), (0, x2)]) (Qc_ E sz 0 out.1 out.2) 0 0 (fun q => E.1 < q) := by
  refine met_G0 RX12 (by decide +kernel) rfl (Nat.le_of_ble_eq_true rfl) ?_
  intro p e s m args below meth c C hr hlk
  rw [fX12_gone] at h
  refine g_aload_n C (f := 0) dX12_gone_0 0 rfl ?_
  refine g_iload_n C (f := 1) dX12_gone_1 1 rfl ?_
  obtain ⟨q1, eq1, h⟩ := bd_e h
  refine g_cV C [(0, x1)] (cX12_isBlock_ok l hC T0 eq1) okX12 T0.2.1 (rg_ hC T0.1) km_RX12_415 cv_X12_isBlock rfl (by decide) rfl rfl (Nat.le_of_ble_eq_true rfl) dX12_gone_2 ?_
  refine g_if_eq C 39 dX12_gone_5 rfl (fun c2 => ?_) (fun c2 => ?_)
  · replace h := if_t h c2
    refine g_iconst C (n := (-1)) dX12_gone_39 (by decide) ?_
    cases h
    exact g_iret C dX12_gone_40 hr hlk
  · replace h := if_f h c2
    refine g_iload_n C (f := 2) dX12_gone_8 2 rfl ?_
    refine g_iconst C (n := 0) dX12_gone_9 (by decide) ?_
    refine g_aload_n C (f := 0) dX12_gone_10 0 rfl ?_
    refine g_iload_n C (f := 1) dX12_gone_11 1 rfl ?_
    obtain ⟨q3, eq3, h⟩ := bd_e h
    refine g_cV C [(0, x1)] (cX12_waysOf_ok l hC T0 eq3) okX12 T0.2.1 (rg_ hC T0.1) km_RX12_393 cv_X12_waysOf rfl (by decide) rfl rfl (Nat.le_of_ble_eq_true rfl) dX12_gone_12 ?_
    refine g_iconst C (n := 1) dX12_gone_15 (by decide) ?_
    refine g_isub C dX12_gone_16 ?_
    obtain ⟨q4, eq4, h⟩ := bd_e h
    refine g_cS C [(0, x2), (0, 0), (0, wr_ (q3.1 - 1))] (cX12_in_ok l hC eq4) km_RX12_334 cs_X12_in rfl (by decide) rfl rfl (Nat.le_of_ble_eq_true rfl) dX12_gone_17 ?_
    refine g_if_eq C 39 dX12_gone_20 rfl (fun c5 => ?_) (fun c5 => ?_)
    · replace h := if_t h c5
      refine g_iconst C (n := (-1)) dX12_gone_39 (by decide) ?_
      cases h
      exact g_iret C dX12_gone_40 hr hlk
    · replace h := if_f h c5
      refine g_aload_n C (f := 0) dX12_gone_23 0 rfl ?_
      have F6 := fX12_36 hC T0.1 T0.2.1
      refine g_getR C (k := 36) (o := 23) okX12 (by decide) kf_RX12_85 dX12_gone_24 hC T0.1 T0.2.1 rfl rfl ?_
      refine g_bipush C (n := 22) dX12_gone_27 (by decide) ?_
      refine g_iconst C (n := 2) dX12_gone_29 (by decide) ?_
      refine g_iload_n C (f := 1) dX12_gone_30 1 rfl ?_
      refine g_imul C dX12_gone_31 ?_
      refine g_iadd C dX12_gone_32 ?_
      refine g_iload_n C (f := 2) dX12_gone_33 2 rfl ?_
      refine g_iadd C dX12_gone_34 ?_
      obtain ⟨c7, h⟩ := ck_e h
      refine g_iald C 47 dX12_gone_35 (rg_ hC F6.1) F6.2.1 F6.2.2 c7 ?_
      refine g_goto C 40 dX12_gone_36 rfl ?_
      cases h
      exact g_iret C dX12_gone_40 hr hlk
theorem dX12_grownOf_0 : decode cX12_grownOf 0 = .ok (.aload_n 0, 1) := by decide +kernel
theorem dX12_grownOf_1 : decode cX12_grownOf 1 = .ok (.invokevirtual 545, 3) := by decide +kernel
theorem dX12_grownOf_4 : decode cX12_grownOf 4 = .ok (.istore_n 1, 1) := by decide +kernel
theorem dX12_grownOf_5 : decode cX12_grownOf 5 = .ok (.aload_n 0, 1) := by decide +kernel
theorem dX12_grownOf_6 : decode cX12_grownOf 6 = .ok (.iload_n 1, 1) := by decide +kernel
theorem dX12_grownOf_7 : decode cX12_grownOf 7 = .ok (.invokevirtual 594, 3) := by decide +kernel
theorem dX12_grownOf_10 : decode cX12_grownOf 10 = .ok (.istore_n 2, 1) := by decide +kernel
theorem dX12_grownOf_11 : decode cX12_grownOf 11 = .ok (.iconst 0, 1) := by decide +kernel
theorem dX12_grownOf_12 : decode cX12_grownOf 12 = .ok (.istore_n 3, 1) := by decide +kernel
theorem dX12_grownOf_13 : decode cX12_grownOf 13 = .ok (.iload_n 3, 1) := by decide +kernel
theorem dX12_grownOf_14 : decode cX12_grownOf 14 = .ok (.bipush 8, 2) := by decide +kernel
theorem dX12_grownOf_16 : decode cX12_grownOf 16 = .ok (.if_icmp .ge 17, 3) := by decide +kernel
theorem dX12_grownOf_19 : decode cX12_grownOf 19 = .ok (.iload_n 2, 1) := by decide +kernel
theorem dX12_grownOf_20 : decode cX12_grownOf 20 = .ok (.iload_n 1, 1) := by decide +kernel
theorem dX12_grownOf_21 : decode cX12_grownOf 21 = .ok (.iload_n 3, 1) := by decide +kernel
theorem dX12_grownOf_22 : decode cX12_grownOf 22 = .ok (.ishr, 1) := by decide +kernel
theorem dX12_grownOf_23 : decode cX12_grownOf 23 = .ok (.iconst 1, 1) := by decide +kernel
theorem dX12_grownOf_24 : decode cX12_grownOf 24 = .ok (.iand, 1) := by decide +kernel
theorem dX12_grownOf_25 : decode cX12_grownOf 25 = .ok (.iadd, 1) := by decide +kernel
theorem dX12_grownOf_26 : decode cX12_grownOf 26 = .ok (.istore_n 2, 1) := by decide +kernel
theorem dX12_grownOf_27 : decode cX12_grownOf 27 = .ok (.iinc 3 1, 3) := by decide +kernel
theorem dX12_grownOf_30 : decode cX12_grownOf 30 = .ok (.goto (-17), 3) := by decide +kernel
theorem dX12_grownOf_33 : decode cX12_grownOf 33 = .ok (.iconst 0, 1) := by decide +kernel
theorem dX12_grownOf_34 : decode cX12_grownOf 34 = .ok (.istore_n 3, 1) := by decide +kernel
theorem dX12_grownOf_35 : decode cX12_grownOf 35 = .ok (.iload_n 3, 1) := by decide +kernel
theorem dX12_grownOf_36 : decode cX12_grownOf 36 = .ok (.aload_n 0, 1) := by decide +kernel
theorem dX12_grownOf_37 : decode cX12_grownOf 37 = .ok (.getfield 402, 3) := by decide +kernel
theorem dX12_grownOf_40 : decode cX12_grownOf 40 = .ok (.if_icmp .ge 24, 3) := by decide +kernel
theorem dX12_grownOf_43 : decode cX12_grownOf 43 = .ok (.iload_n 2, 1) := by decide +kernel
theorem dX12_grownOf_44 : decode cX12_grownOf 44 = .ok (.aload_n 0, 1) := by decide +kernel
theorem dX12_grownOf_45 : decode cX12_grownOf 45 = .ok (.getfield 118, 3) := by decide +kernel
theorem dX12_grownOf_48 : decode cX12_grownOf 48 = .ok (.iload_n 3, 1) := by decide +kernel
theorem dX12_grownOf_49 : decode cX12_grownOf 49 = .ok (.iaload, 1) := by decide +kernel
theorem dX12_grownOf_50 : decode cX12_grownOf 50 = .ok (.aload_n 0, 1) := by decide +kernel
theorem dX12_grownOf_51 : decode cX12_grownOf 51 = .ok (.iload_n 3, 1) := by decide +kernel
theorem dX12_grownOf_52 : decode cX12_grownOf 52 = .ok (.invokevirtual 582, 3) := by decide +kernel
theorem dX12_grownOf_55 : decode cX12_grownOf 55 = .ok (.iadd, 1) := by decide +kernel
theorem dX12_grownOf_56 : decode cX12_grownOf 56 = .ok (.iadd, 1) := by decide +kernel
theorem dX12_grownOf_57 : decode cX12_grownOf 57 = .ok (.istore_n 2, 1) := by decide +kernel
theorem dX12_grownOf_58 : decode cX12_grownOf 58 = .ok (.iinc 3 1, 3) := by decide +kernel
theorem dX12_grownOf_61 : decode cX12_grownOf 61 = .ok (.goto (-26), 3) := by decide +kernel
theorem dX12_grownOf_64 : decode cX12_grownOf 64 = .ok (.iload_n 2, 1) := by decide +kernel
theorem dX12_grownOf_65 : decode cX12_grownOf 65 = .ok (.ireturn, 1) := by decide +kernel
def fX12_grownOf_35 : Nat → Int → Int → Int → V_ → Option (Int × V_)
  | 0, _, _, _, _ => none
  | n + 1, x0, x2, x3, v =>
    if (v x0 52) ≤ x3 then (
      some (x2, v))
    else (
      ck_ (0 ≤ x3 ∧ x3 < 8) (
      bd_ (fX12_copiedAll x0 x3 v) fun q7 =>
      lt_ (wr_ (x2 + (wr_ ((v (x0 + 34) x3) + q7.1)))) fun y8 =>
      lt_ (wr_ (x3 + 1)) fun y9 =>
      (fX12_grownOf_35 n) x0 y8 y9 q7.2))
def fX12_grownOf_13 : Nat → Int → Int → Int → Int → V_ → Option (Int × V_)
  | 0, _, _, _, _, _ => none
  | n + 1, x0, x1, x2, x3, v =>
    if 8 ≤ x3 then (
      fX12_grownOf_35 fu_ x0 x2 0 v)
    else (
      lt_ (wr_ (x2 + (bA_ (sR_ x1 x3) 1))) fun y10 =>
      lt_ (wr_ (x3 + 1)) fun y11 =>
      (fX12_grownOf_13 n) x0 x1 y10 y11 v)
def fX12_grownOf (x0 : Int) (v : V_) : Option (Int × V_) :=
  bd_ (fX12_joinedBits x0 v) fun q1 =>
  bd_ (fX12_linesAll x0 q1.1 q1.2) fun q2 =>
  fX12_grownOf_13 fu_ x0 q1.1 q2.1 0 q2.2
section
variable {E : En_} {p : Program} {l : Launch} {e : Env} {s : State} {m : MethodId} {args : Array Value} {below : List Frame} {meth : Method} {c : Code} {sz : Int}
theorem tX12_grownOf_35 (C : MC_ E p s m c cX12_grownOf 4 RX12) (hr : meth.sig.returnType = (some FieldType.int)) (hlk : meth.locks = false) (hC : Cl_ E.2.2.2.2.2 sz) {out : Int × V_} : ∀ (n : Nat) (x0 x2 x3 : Int) (v : V_), (E.2.2.2.2.2 x0 ∧ ty_ x0 = 12 ∧ ln_ x0 = 0) → fX12_grownOf_35 n x0 x2 x3 v = some out → G_ E p l e (rm_ 4 90) s m args below meth c 4 sz (Q_ E below args s sz sz 0 out.1 out.2) 35 [(0, (2, x0)), (2, (0, x2)), (3, (0, x3))] [] v sz := by
  intro n
  induction n with
  | zero =>
    intro x0 x2 x3 v T0 h
    cases h
  | succ n H_35 =>
    intro x0 x2 x3 v T0 h
    rw [fX12_grownOf_35] at h
    refine g_iload_n C (f := 3) dX12_grownOf_35 2 rfl ?_
    refine g_aload_n C (f := 0) dX12_grownOf_36 0 rfl ?_
    refine g_getf C (k := 52) (kd := 0) okX12 (by decide) kf_RX12_402 dX12_grownOf_37 (rg_ hC T0.1) T0.2.1 rfl ?_
    refine g_icmp_ge C 64 dX12_grownOf_40 rfl (fun c4 => ?_) (fun c4 => ?_)
    · replace h := if_t h c4
      refine g_iload_n C (f := 2) dX12_grownOf_64 1 rfl ?_
      cases h
      exact g_iret C dX12_grownOf_65 hr hlk
    · replace h := if_f h c4
      refine g_iload_n C (f := 2) dX12_grownOf_43 1 rfl ?_
      refine g_aload_n C (f := 0) dX12_grownOf_44 0 rfl ?_
      have F5 := fX12_53 hC T0.1 T0.2.1
      refine g_getR C (k := 53) (o := 34) okX12 (by decide) kf_RX12_118 dX12_grownOf_45 hC T0.1 T0.2.1 rfl rfl ?_
      refine g_iload_n C (f := 3) dX12_grownOf_48 2 rfl ?_
      obtain ⟨c6, h⟩ := ck_e h
      refine g_iald C 8 dX12_grownOf_49 (rg_ hC F5.1) F5.2.1 F5.2.2 c6 ?_
      refine g_aload_n C (f := 0) dX12_grownOf_50 0 rfl ?_
      refine g_iload_n C (f := 3) dX12_grownOf_51 2 rfl ?_
      obtain ⟨q7, eq7, h⟩ := bd_e h
      refine g_cV C [(0, x3)] (cX12_copiedAll_ok l hC T0 eq7) okX12 T0.2.1 (rg_ hC T0.1) km_RX12_582 cv_X12_copiedAll rfl (by decide) rfl rfl (Nat.le_of_ble_eq_true rfl) dX12_grownOf_52 ?_
      refine g_iadd C dX12_grownOf_55 ?_
      refine g_iadd C dX12_grownOf_56 ?_
      obtain ⟨y8, ey8, h⟩ := lt_e h
      refine g_set C ey8 ?_
      refine g_istore_n C (f := 2) (ls' := [(2, (0, y8)), (0, (2, x0)), (3, (0, x3))]) dX12_grownOf_57 (by decide) rfl ?_
      obtain ⟨y9, ey9, h⟩ := lt_e h
      refine g_iincx C (ls' := [(3, (0, y9)), (2, (0, y8)), (0, (2, x0))]) ey9 dX12_grownOf_58 2 rfl (by decide) (by decide) rfl ?_
      refine g_goto C 35 dX12_grownOf_61 rfl ?_
      refine g_sub [2, 1, 0] rfl rfl ?_
      exact H_35 _ _ _ _ T0 h
theorem tX12_grownOf_13 (C : MC_ E p s m c cX12_grownOf 4 RX12) (hr : meth.sig.returnType = (some FieldType.int)) (hlk : meth.locks = false) (hC : Cl_ E.2.2.2.2.2 sz) {out : Int × V_} : ∀ (n : Nat) (x0 x1 x2 x3 : Int) (v : V_), (E.2.2.2.2.2 x0 ∧ ty_ x0 = 12 ∧ ln_ x0 = 0) → fX12_grownOf_13 n x0 x1 x2 x3 v = some out → G_ E p l e (rm_ 4 90) s m args below meth c 4 sz (Q_ E below args s sz sz 0 out.1 out.2) 13 [(0, (2, x0)), (1, (0, x1)), (2, (0, x2)), (3, (0, x3))] [] v sz := by
  intro n
  induction n with
  | zero =>
    intro x0 x1 x2 x3 v T0 h
    cases h
  | succ n H_13 =>
    intro x0 x1 x2 x3 v T0 h
    rw [fX12_grownOf_13] at h
    refine g_iload_n C (f := 3) dX12_grownOf_13 3 rfl ?_
    refine g_bipush C (n := 8) dX12_grownOf_14 (by decide) ?_
    refine g_icmp_ge C 33 dX12_grownOf_16 rfl (fun c3 => ?_) (fun c3 => ?_)
    · replace h := if_t h c3
      refine g_iconst C (n := 0) dX12_grownOf_33 (by decide) ?_
      refine g_istore_n C (f := 3) (ls' := [(3, (0, 0)), (0, (2, x0)), (1, (0, x1)), (2, (0, x2))]) dX12_grownOf_34 (by decide) rfl ?_
      refine g_sub [1, 3, 0] rfl rfl ?_
      exact tX12_grownOf_35 C hr hlk hC _ _ _ _ _ T0 h
    · replace h := if_f h c3
      refine g_iload_n C (f := 2) dX12_grownOf_19 2 rfl ?_
      refine g_iload_n C (f := 1) dX12_grownOf_20 1 rfl ?_
      refine g_iload_n C (f := 3) dX12_grownOf_21 3 rfl ?_
      refine g_ishr C dX12_grownOf_22 ?_
      refine g_iconst C (n := 1) dX12_grownOf_23 (by decide) ?_
      refine g_iand C dX12_grownOf_24 ?_
      refine g_iadd C dX12_grownOf_25 ?_
      obtain ⟨y10, ey10, h⟩ := lt_e h
      refine g_set C ey10 ?_
      refine g_istore_n C (f := 2) (ls' := [(2, (0, y10)), (0, (2, x0)), (1, (0, x1)), (3, (0, x3))]) dX12_grownOf_26 (by decide) rfl ?_
      obtain ⟨y11, ey11, h⟩ := lt_e h
      refine g_iincx C (ls' := [(3, (0, y11)), (2, (0, y10)), (0, (2, x0)), (1, (0, x1))]) ey11 dX12_grownOf_27 3 rfl (by decide) (by decide) rfl ?_
      refine g_goto C 13 dX12_grownOf_30 rfl ?_
      refine g_sub [2, 3, 1, 0] rfl rfl ?_
      exact H_13 _ _ _ _ _ T0 h
end
theorem cX12_grownOf_ok (l : Launch) {E : En_} {sz : Int} (hC : Cl_ E.2.2.2.2.2 sz) {x0 : Int} {v : V_} {out : Int × V_} (T0 : (E.2.2.2.2.2 x0 ∧ ty_ x0 = 12 ∧ ln_ x0 = 0)) (h : fX12_grownOf x0 v = some out) : Met l yX12_grownOf [.code yX12_grownOf cX12_grownOf 4 (some FieldType.int)] (rm_ 4 90) (Pc_ E sz v [(2, x0)]) (Qc_ E sz 0 out.1 out.2) 0 0 (fun q => E.1 < q) := by
  refine met_G0 RX12 (by decide +kernel) rfl (Nat.le_of_ble_eq_true rfl) ?_
  intro p e s m args below meth c C hr hlk
  rw [fX12_grownOf] at h
  refine g_aload_n C (f := 0) dX12_grownOf_0 0 rfl ?_
  obtain ⟨q1, eq1, h⟩ := bd_e h
  refine g_cV C [] (cX12_joinedBits_ok l hC T0 eq1) okX12 T0.2.1 (rg_ hC T0.1) km_RX12_545 cv_X12_joinedBits rfl (by decide) rfl rfl (Nat.le_of_ble_eq_true rfl) dX12_grownOf_1 ?_
  refine g_istore_n C (f := 1) (ls' := [(1, (0, q1.1)), (0, (2, x0))]) dX12_grownOf_4 (by decide) rfl ?_
  refine g_aload_n C (f := 0) dX12_grownOf_5 1 rfl ?_
  refine g_iload_n C (f := 1) dX12_grownOf_6 0 rfl ?_
  obtain ⟨q2, eq2, h⟩ := bd_e h
  refine g_cV C [(0, q1.1)] (cX12_linesAll_ok l hC T0 eq2) okX12 T0.2.1 (rg_ hC T0.1) km_RX12_594 cv_X12_linesAll rfl (by decide) rfl rfl (Nat.le_of_ble_eq_true rfl) dX12_grownOf_7 ?_
  refine g_istore_n C (f := 2) (ls' := [(2, (0, q2.1)), (1, (0, q1.1)), (0, (2, x0))]) dX12_grownOf_10 (by decide) rfl ?_
  refine g_iconst C (n := 0) dX12_grownOf_11 (by decide) ?_
  refine g_istore_n C (f := 3) (ls' := [(3, (0, 0)), (2, (0, q2.1)), (1, (0, q1.1)), (0, (2, x0))]) dX12_grownOf_12 (by decide) rfl ?_
  refine g_sub [3, 2, 1, 0] rfl rfl ?_
  exact tX12_grownOf_13 C hr hlk hC _ _ _ _ _ _ T0 h
theorem dX12_splitsOf_0 : decode cX12_splitsOf 0 = .ok (.iconst 0, 1) := by decide +kernel
theorem dX12_splitsOf_1 : decode cX12_splitsOf 1 = .ok (.istore_n 2, 1) := by decide +kernel
theorem dX12_splitsOf_2 : decode cX12_splitsOf 2 = .ok (.iconst 0, 1) := by decide +kernel
theorem dX12_splitsOf_3 : decode cX12_splitsOf 3 = .ok (.istore_n 3, 1) := by decide +kernel
theorem dX12_splitsOf_4 : decode cX12_splitsOf 4 = .ok (.iload_n 3, 1) := by decide +kernel
theorem dX12_splitsOf_5 : decode cX12_splitsOf 5 = .ok (.aload_n 0, 1) := by decide +kernel
theorem dX12_splitsOf_6 : decode cX12_splitsOf 6 = .ok (.getfield 118, 3) := by decide +kernel
theorem dX12_splitsOf_9 : decode cX12_splitsOf 9 = .ok (.iload_n 1, 1) := by decide +kernel
theorem dX12_splitsOf_10 : decode cX12_splitsOf 10 = .ok (.iaload, 1) := by decide +kernel
theorem dX12_splitsOf_11 : decode cX12_splitsOf 11 = .ok (.if_icmp .ge 27, 3) := by decide +kernel
theorem dX12_splitsOf_14 : decode cX12_splitsOf 14 = .ok (.aload_n 0, 1) := by decide +kernel
theorem dX12_splitsOf_15 : decode cX12_splitsOf 15 = .ok (.getfield 121, 3) := by decide +kernel
theorem dX12_splitsOf_18 : decode cX12_splitsOf 18 = .ok (.bipush 34, 2) := by decide +kernel
theorem dX12_splitsOf_20 : decode cX12_splitsOf 20 = .ok (.iload_n 1, 1) := by decide +kernel
theorem dX12_splitsOf_21 : decode cX12_splitsOf 21 = .ok (.imul, 1) := by decide +kernel
theorem dX12_splitsOf_22 : decode cX12_splitsOf 22 = .ok (.iload_n 3, 1) := by decide +kernel
theorem dX12_splitsOf_23 : decode cX12_splitsOf 23 = .ok (.iadd, 1) := by decide +kernel
theorem dX12_splitsOf_24 : decode cX12_splitsOf 24 = .ok (.iaload, 1) := by decide +kernel
theorem dX12_splitsOf_25 : decode cX12_splitsOf 25 = .ok (.iconst 2, 1) := by decide +kernel
theorem dX12_splitsOf_26 : decode cX12_splitsOf 26 = .ok (.if_icmp .ne 6, 3) := by decide +kernel
theorem dX12_splitsOf_29 : decode cX12_splitsOf 29 = .ok (.iinc 2 1, 3) := by decide +kernel
theorem dX12_splitsOf_32 : decode cX12_splitsOf 32 = .ok (.iinc 3 1, 3) := by decide +kernel
theorem dX12_splitsOf_35 : decode cX12_splitsOf 35 = .ok (.goto (-31), 3) := by decide +kernel
theorem dX12_splitsOf_38 : decode cX12_splitsOf 38 = .ok (.iload_n 2, 1) := by decide +kernel
theorem dX12_splitsOf_39 : decode cX12_splitsOf 39 = .ok (.ireturn, 1) := by decide +kernel
def fX12_splitsOf_4 : Nat → Int → Int → Int → Int → V_ → Option (Int × V_)
  | 0, _, _, _, _, _ => none
  | n + 1, x0, x1, x2, x3, v =>
    ck_ (0 ≤ x1 ∧ x1 < 8) (
    if (v (x0 + 34) x1) ≤ x3 then (
      some (x2, v))
    else (
      ck_ (0 ≤ wr_ ((wr_ (34 * x1)) + x3) ∧ wr_ ((wr_ (34 * x1)) + x3) < 272) (
      if (v (x0 + 35) (wr_ ((wr_ (34 * x1)) + x3))) = 2 then (
        lt_ (wr_ (x2 + 1)) fun y8 =>
        lt_ (wr_ (x3 + 1)) fun y9 =>
        (fX12_splitsOf_4 n) x0 x1 y8 y9 v)
      else (
        lt_ (wr_ (x3 + 1)) fun y7 =>
        (fX12_splitsOf_4 n) x0 x1 x2 y7 v))))
def fX12_splitsOf (x0 x1 : Int) (v : V_) : Option (Int × V_) :=
  fX12_splitsOf_4 fu_ x0 x1 0 0 v
section
variable {E : En_} {p : Program} {l : Launch} {e : Env} {s : State} {m : MethodId} {args : Array Value} {below : List Frame} {meth : Method} {c : Code} {sz : Int}
theorem tX12_splitsOf_4 (C : MC_ E p s m c cX12_splitsOf 4 RX12) (hr : meth.sig.returnType = (some FieldType.int)) (hlk : meth.locks = false) (hC : Cl_ E.2.2.2.2.2 sz) {out : Int × V_} : ∀ (n : Nat) (x0 x1 x2 x3 : Int) (v : V_), (E.2.2.2.2.2 x0 ∧ ty_ x0 = 12 ∧ ln_ x0 = 0) → fX12_splitsOf_4 n x0 x1 x2 x3 v = some out → G_ E p l e (rm_ 0 0) s m args below meth c 4 sz (Q_ E below args s sz sz 0 out.1 out.2) 4 [(0, (2, x0)), (1, (0, x1)), (2, (0, x2)), (3, (0, x3))] [] v sz := by
  intro n
  induction n with
  | zero =>
    intro x0 x1 x2 x3 v T0 h
    cases h
  | succ n H_4 =>
    intro x0 x1 x2 x3 v T0 h
    rw [fX12_splitsOf_4] at h
    refine g_iload_n C (f := 3) dX12_splitsOf_4 3 rfl ?_
    refine g_aload_n C (f := 0) dX12_splitsOf_5 0 rfl ?_
    have F1 := fX12_53 hC T0.1 T0.2.1
    refine g_getR C (k := 53) (o := 34) okX12 (by decide) kf_RX12_118 dX12_splitsOf_6 hC T0.1 T0.2.1 rfl rfl ?_
    refine g_iload_n C (f := 1) dX12_splitsOf_9 1 rfl ?_
    obtain ⟨c2, h⟩ := ck_e h
    refine g_iald C 8 dX12_splitsOf_10 (rg_ hC F1.1) F1.2.1 F1.2.2 c2 ?_
    refine g_icmp_ge C 38 dX12_splitsOf_11 rfl (fun c3 => ?_) (fun c3 => ?_)
    · replace h := if_t h c3
      refine g_iload_n C (f := 2) dX12_splitsOf_38 2 rfl ?_
      cases h
      exact g_iret C dX12_splitsOf_39 hr hlk
    · replace h := if_f h c3
      refine g_aload_n C (f := 0) dX12_splitsOf_14 0 rfl ?_
      have F4 := fX12_54 hC T0.1 T0.2.1
      refine g_getR C (k := 54) (o := 35) okX12 (by decide) kf_RX12_121 dX12_splitsOf_15 hC T0.1 T0.2.1 rfl rfl ?_
      refine g_bipush C (n := 34) dX12_splitsOf_18 (by decide) ?_
      refine g_iload_n C (f := 1) dX12_splitsOf_20 1 rfl ?_
      refine g_imul C dX12_splitsOf_21 ?_
      refine g_iload_n C (f := 3) dX12_splitsOf_22 3 rfl ?_
      refine g_iadd C dX12_splitsOf_23 ?_
      obtain ⟨c5, h⟩ := ck_e h
      refine g_iald C 272 dX12_splitsOf_24 (rg_ hC F4.1) F4.2.1 F4.2.2 c5 ?_
      refine g_iconst C (n := 2) dX12_splitsOf_25 (by decide) ?_
      refine g_icmp_ne C 32 dX12_splitsOf_26 rfl (fun c6 => ?_) (fun c6 => ?_)
      · replace h := if_f h c6
        obtain ⟨y7, ey7, h⟩ := lt_e h
        refine g_iincx C (ls' := [(3, (0, y7)), (0, (2, x0)), (1, (0, x1)), (2, (0, x2))]) ey7 dX12_splitsOf_32 3 rfl (by decide) (by decide) rfl ?_
        refine g_goto C 4 dX12_splitsOf_35 rfl ?_
        refine g_sub [1, 2, 3, 0] rfl rfl ?_
        exact H_4 _ _ _ _ _ T0 h
      · replace h := if_t h c6
        obtain ⟨y8, ey8, h⟩ := lt_e h
        refine g_iincx C (ls' := [(2, (0, y8)), (0, (2, x0)), (1, (0, x1)), (3, (0, x3))]) ey8 dX12_splitsOf_29 2 rfl (by decide) (by decide) rfl ?_
        obtain ⟨y9, ey9, h⟩ := lt_e h
        refine g_iincx C (ls' := [(3, (0, y9)), (2, (0, y8)), (0, (2, x0)), (1, (0, x1))]) ey9 dX12_splitsOf_32 3 rfl (by decide) (by decide) rfl ?_
        refine g_goto C 4 dX12_splitsOf_35 rfl ?_
        refine g_sub [2, 3, 1, 0] rfl rfl ?_
        exact H_4 _ _ _ _ _ T0 h
end
theorem cX12_splitsOf_ok (l : Launch) {E : En_} {sz : Int} (hC : Cl_ E.2.2.2.2.2 sz) {x0 x1 : Int} {v : V_} {out : Int × V_} (T0 : (E.2.2.2.2.2 x0 ∧ ty_ x0 = 12 ∧ ln_ x0 = 0)) (h : fX12_splitsOf x0 x1 v = some out) : Met l yX12_splitsOf [.code yX12_splitsOf cX12_splitsOf 4 (some FieldType.int)] (rm_ 0 0) (Pc_ E sz v [(2, x0), (0, x1)]) (Qc_ E sz 0 out.1 out.2) 0 0 (fun q => E.1 < q) := by
  refine met_G0 RX12 (by decide +kernel) rfl (Nat.le_of_ble_eq_true rfl) ?_
  intro p e s m args below meth c C hr hlk
  rw [fX12_splitsOf] at h
  refine g_iconst C (n := 0) dX12_splitsOf_0 (by decide) ?_
  refine g_istore_n C (f := 2) (ls' := [(2, (0, 0)), (0, (2, x0)), (1, (0, x1))]) dX12_splitsOf_1 (by decide) rfl ?_
  refine g_iconst C (n := 0) dX12_splitsOf_2 (by decide) ?_
  refine g_istore_n C (f := 3) (ls' := [(3, (0, 0)), (2, (0, 0)), (0, (2, x0)), (1, (0, x1))]) dX12_splitsOf_3 (by decide) rfl ?_
  refine g_sub [2, 3, 1, 0] rfl rfl ?_
  exact tX12_splitsOf_4 C hr hlk hC _ _ _ _ _ _ T0 h
theorem dX12_growth_0 : decode cX12_growth 0 = .ok (.aload_n 0, 1) := by decide +kernel
theorem dX12_growth_1 : decode cX12_growth 1 = .ok (.invokevirtual 542, 3) := by decide +kernel
theorem dX12_growth_4 : decode cX12_growth 4 = .ok (.iconst 0, 1) := by decide +kernel
theorem dX12_growth_5 : decode cX12_growth 5 = .ok (.istore_n 2, 1) := by decide +kernel
theorem dX12_growth_6 : decode cX12_growth 6 = .ok (.iload_n 1, 1) := by decide +kernel
theorem dX12_growth_7 : decode cX12_growth 7 = .ok (.tableswitch 83 0 3 #[29, 47, 52, 78], 29) := by decide +kernel
theorem dX12_growth_36 : decode cX12_growth 36 = .ok (.aload_n 0, 1) := by decide +kernel
theorem dX12_growth_37 : decode cX12_growth 37 = .ok (.sipush 255, 3) := by decide +kernel
theorem dX12_growth_40 : decode cX12_growth 40 = .ok (.invokevirtual 594, 3) := by decide +kernel
theorem dX12_growth_43 : decode cX12_growth 43 = .ok (.aload_n 0, 1) := by decide +kernel
theorem dX12_growth_44 : decode cX12_growth 44 = .ok (.getfield 43, 3) := by decide +kernel
theorem dX12_growth_47 : decode cX12_growth 47 = .ok (.aload_n 0, 1) := by decide +kernel
theorem dX12_growth_48 : decode cX12_growth 48 = .ok (.getfield 272, 3) := by decide +kernel
theorem dX12_growth_51 : decode cX12_growth 51 = .ok (.iaload, 1) := by decide +kernel
theorem dX12_growth_52 : decode cX12_growth 52 = .ok (.iadd, 1) := by decide +kernel
theorem dX12_growth_53 : decode cX12_growth 53 = .ok (.ireturn, 1) := by decide +kernel
theorem dX12_growth_54 : decode cX12_growth 54 = .ok (.aload_n 0, 1) := by decide +kernel
theorem dX12_growth_55 : decode cX12_growth 55 = .ok (.invokevirtual 597, 3) := by decide +kernel
theorem dX12_growth_58 : decode cX12_growth 58 = .ok (.ireturn, 1) := by decide +kernel
theorem dX12_growth_59 : decode cX12_growth 59 = .ok (.iconst 0, 1) := by decide +kernel
theorem dX12_growth_60 : decode cX12_growth 60 = .ok (.istore_n 3, 1) := by decide +kernel
theorem dX12_growth_61 : decode cX12_growth 61 = .ok (.iload_n 3, 1) := by decide +kernel
theorem dX12_growth_62 : decode cX12_growth 62 = .ok (.aload_n 0, 1) := by decide +kernel
theorem dX12_growth_63 : decode cX12_growth 63 = .ok (.getfield 402, 3) := by decide +kernel
theorem dX12_growth_66 : decode cX12_growth 66 = .ok (.if_icmp .ge 17, 3) := by decide +kernel
theorem dX12_growth_69 : decode cX12_growth 69 = .ok (.iload_n 2, 1) := by decide +kernel
theorem dX12_growth_70 : decode cX12_growth 70 = .ok (.aload_n 0, 1) := by decide +kernel
theorem dX12_growth_71 : decode cX12_growth 71 = .ok (.iload_n 3, 1) := by decide +kernel
theorem dX12_growth_72 : decode cX12_growth 72 = .ok (.invokevirtual 573, 3) := by decide +kernel
theorem dX12_growth_75 : decode cX12_growth 75 = .ok (.iadd, 1) := by decide +kernel
theorem dX12_growth_76 : decode cX12_growth 76 = .ok (.istore_n 2, 1) := by decide +kernel
theorem dX12_growth_77 : decode cX12_growth 77 = .ok (.iinc 3 1, 3) := by decide +kernel
theorem dX12_growth_80 : decode cX12_growth 80 = .ok (.goto (-19), 3) := by decide +kernel
theorem dX12_growth_83 : decode cX12_growth 83 = .ok (.iload_n 2, 1) := by decide +kernel
theorem dX12_growth_84 : decode cX12_growth 84 = .ok (.ireturn, 1) := by decide +kernel
theorem dX12_growth_85 : decode cX12_growth 85 = .ok (.aload_n 0, 1) := by decide +kernel
theorem dX12_growth_86 : decode cX12_growth 86 = .ok (.invokevirtual 545, 3) := by decide +kernel
theorem dX12_growth_89 : decode cX12_growth 89 = .ok (.ireturn, 1) := by decide +kernel
theorem dX12_growth_90 : decode cX12_growth 90 = .ok (.iconst (-1), 1) := by decide +kernel
theorem dX12_growth_91 : decode cX12_growth 91 = .ok (.ireturn, 1) := by decide +kernel
def fX12_growth_61 : Nat → Int → Int → Int → V_ → Option (Int × V_)
  | 0, _, _, _, _ => none
  | n + 1, x0, x2, x3, v =>
    if (v x0 52) ≤ x3 then (
      some (x2, v))
    else (
      bd_ (fX12_splitsOf x0 x3 v) fun q10 =>
      lt_ (wr_ (x2 + q10.1)) fun y11 =>
      lt_ (wr_ (x3 + 1)) fun y12 =>
      (fX12_growth_61 n) x0 y11 y12 q10.2)
def fX12_growth (x0 x1 : Int) (v : V_) : Option (Int × V_) :=
  bd_ (fX12_plansAll x0 v) fun q1 =>
  if x1 = 0 then (
    bd_ (fX12_linesAll x0 255 q1.2) fun q3 =>
    ck_ (0 ≤ q3.2 x0 18 ∧ q3.2 x0 18 < 2) (
    some (wr_ (q3.1 + (q3.2 (x0 + 9) (q3.2 x0 18))), q3.2)))
  else (
  if x1 = 1 then (
    bd_ (fX12_grownOf x0 q1.2) fun q7 =>
    some (q7.1, q7.2))
  else (
  if x1 = 2 then (
    fX12_growth_61 fu_ x0 0 0 q1.2)
  else (
  if x1 = 3 then (
    bd_ (fX12_joinedBits x0 q1.2) fun q14 =>
    some (q14.1, q14.2))
  else (
  some ((-1), q1.2)))))
section
variable {E : En_} {p : Program} {l : Launch} {e : Env} {s : State} {m : MethodId} {args : Array Value} {below : List Frame} {meth : Method} {c : Code} {sz : Int}
theorem tX12_growth_61 (C : MC_ E p s m c cX12_growth 4 RX12) (hr : meth.sig.returnType = (some FieldType.int)) (hlk : meth.locks = false) (hC : Cl_ E.2.2.2.2.2 sz) {out : Int × V_} : ∀ (n : Nat) (x0 x2 x3 : Int) (v : V_), (E.2.2.2.2.2 x0 ∧ ty_ x0 = 12 ∧ ln_ x0 = 0) → fX12_growth_61 n x0 x2 x3 v = some out → G_ E p l e (rm_ 6 133) s m args below meth c 4 sz (Q_ E below args s sz sz 0 out.1 out.2) 61 [(0, (2, x0)), (2, (0, x2)), (3, (0, x3))] [] v sz := by
  intro n
  induction n with
  | zero =>
    intro x0 x2 x3 v T0 h
    cases h
  | succ n H_61 =>
    intro x0 x2 x3 v T0 h
    rw [fX12_growth_61] at h
    refine g_iload_n C (f := 3) dX12_growth_61 2 rfl ?_
    refine g_aload_n C (f := 0) dX12_growth_62 0 rfl ?_
    refine g_getf C (k := 52) (kd := 0) okX12 (by decide) kf_RX12_402 dX12_growth_63 (rg_ hC T0.1) T0.2.1 rfl ?_
    refine g_icmp_ge C 83 dX12_growth_66 rfl (fun c9 => ?_) (fun c9 => ?_)
    · replace h := if_t h c9
      refine g_iload_n C (f := 2) dX12_growth_83 1 rfl ?_
      cases h
      exact g_iret C dX12_growth_84 hr hlk
    · replace h := if_f h c9
      refine g_iload_n C (f := 2) dX12_growth_69 1 rfl ?_
      refine g_aload_n C (f := 0) dX12_growth_70 0 rfl ?_
      refine g_iload_n C (f := 3) dX12_growth_71 2 rfl ?_
      obtain ⟨q10, eq10, h⟩ := bd_e h
      refine g_cV C [(0, x3)] (cX12_splitsOf_ok l hC T0 eq10) okX12 T0.2.1 (rg_ hC T0.1) km_RX12_573 cv_X12_splitsOf rfl (by decide) rfl rfl (Nat.le_of_ble_eq_true rfl) dX12_growth_72 ?_
      refine g_iadd C dX12_growth_75 ?_
      obtain ⟨y11, ey11, h⟩ := lt_e h
      refine g_set C ey11 ?_
      refine g_istore_n C (f := 2) (ls' := [(2, (0, y11)), (0, (2, x0)), (3, (0, x3))]) dX12_growth_76 (by decide) rfl ?_
      obtain ⟨y12, ey12, h⟩ := lt_e h
      refine g_iincx C (ls' := [(3, (0, y12)), (2, (0, y11)), (0, (2, x0))]) ey12 dX12_growth_77 2 rfl (by decide) (by decide) rfl ?_
      refine g_goto C 61 dX12_growth_80 rfl ?_
      refine g_sub [2, 1, 0] rfl rfl ?_
      exact H_61 _ _ _ _ T0 h
end
theorem cX12_growth_ok (l : Launch) {E : En_} {sz : Int} (hC : Cl_ E.2.2.2.2.2 sz) {x0 x1 : Int} {v : V_} {out : Int × V_} (T0 : (E.2.2.2.2.2 x0 ∧ ty_ x0 = 12 ∧ ln_ x0 = 0)) (h : fX12_growth x0 x1 v = some out) : Met l yX12_growth [.code yX12_growth cX12_growth 4 (some FieldType.int)] (rm_ 6 133) (Pc_ E sz v [(2, x0), (0, x1)]) (Qc_ E sz 0 out.1 out.2) 0 0 (fun q => E.1 < q) := by
  refine met_G0 RX12 (by decide +kernel) rfl (Nat.le_of_ble_eq_true rfl) ?_
  intro p e s m args below meth c C hr hlk
  rw [fX12_growth] at h
  refine g_aload_n C (f := 0) dX12_growth_0 0 rfl ?_
  obtain ⟨q1, eq1, h⟩ := bd_e h
  refine g_cV C [] (cX12_plansAll_ok l hC T0 eq1) okX12 T0.2.1 (rg_ hC T0.1) km_RX12_542 cv_X12_plansAll rfl (by decide) rfl rfl (Nat.le_of_ble_eq_true rfl) dX12_growth_1 ?_
  refine g_iconst C (n := 0) dX12_growth_4 (by decide) ?_
  refine g_istore_n C (f := 2) (ls' := [(2, (0, 0)), (0, (2, x0)), (1, (0, x1))]) dX12_growth_5 (by decide) rfl ?_
  refine g_iload_n C (f := 1) dX12_growth_6 2 rfl ?_
  by_cases c2 : x1 = 0
  · replace h := if_t h c2
    refine g_tin C 36 dX12_growth_7 0 c2 (by decide) (by decide) rfl rfl ?_
    refine g_aload_n C (f := 0) dX12_growth_36 1 rfl ?_
    refine g_sipush C (n := 255) dX12_growth_37 (by decide) ?_
    obtain ⟨q3, eq3, h⟩ := bd_e h
    refine g_cV C [(0, 255)] (cX12_linesAll_ok l hC T0 eq3) okX12 T0.2.1 (rg_ hC T0.1) km_RX12_594 cv_X12_linesAll rfl (by decide) rfl rfl (Nat.le_of_ble_eq_true rfl) dX12_growth_40 ?_
    refine g_aload_n C (f := 0) dX12_growth_43 1 rfl ?_
    have F4 := fX12_22 hC T0.1 T0.2.1
    refine g_getR C (k := 22) (o := 9) okX12 (by decide) kf_RX12_43 dX12_growth_44 hC T0.1 T0.2.1 rfl rfl ?_
    refine g_aload_n C (f := 0) dX12_growth_47 1 rfl ?_
    refine g_getf C (k := 18) (kd := 0) okX12 (by decide) kf_RX12_272 dX12_growth_48 (rg_ hC T0.1) T0.2.1 rfl ?_
    obtain ⟨c5, h⟩ := ck_e h
    refine g_iald C 2 dX12_growth_51 (rg_ hC F4.1) F4.2.1 F4.2.2 c5 ?_
    refine g_iadd C dX12_growth_52 ?_
    cases h
    exact g_iret C dX12_growth_53 hr hlk
  replace h := if_f h c2
  by_cases c6 : x1 = 1
  · replace h := if_t h c6
    refine g_tin C 54 dX12_growth_7 1 c6 (by decide) (by decide) rfl rfl ?_
    refine g_aload_n C (f := 0) dX12_growth_54 1 rfl ?_
    obtain ⟨q7, eq7, h⟩ := bd_e h
    refine g_cV C [] (cX12_grownOf_ok l hC T0 eq7) okX12 T0.2.1 (rg_ hC T0.1) km_RX12_597 cv_X12_grownOf rfl (by decide) rfl rfl (Nat.le_of_ble_eq_true rfl) dX12_growth_55 ?_
    cases h
    exact g_iret C dX12_growth_58 hr hlk
  replace h := if_f h c6
  by_cases c8 : x1 = 2
  · replace h := if_t h c8
    refine g_tin C 59 dX12_growth_7 2 c8 (by decide) (by decide) rfl rfl ?_
    refine g_iconst C (n := 0) dX12_growth_59 (by decide) ?_
    refine g_istore_n C (f := 3) (ls' := [(3, (0, 0)), (2, (0, 0)), (0, (2, x0)), (1, (0, x1))]) dX12_growth_60 (by decide) rfl ?_
    refine g_sub [2, 1, 0] rfl rfl ?_
    exact tX12_growth_61 C hr hlk hC _ _ _ _ _ T0 h
  replace h := if_f h c8
  by_cases c13 : x1 = 3
  · replace h := if_t h c13
    refine g_tin C 85 dX12_growth_7 3 c13 (by decide) (by decide) rfl rfl ?_
    refine g_aload_n C (f := 0) dX12_growth_85 1 rfl ?_
    obtain ⟨q14, eq14, h⟩ := bd_e h
    refine g_cV C [] (cX12_joinedBits_ok l hC T0 eq14) okX12 T0.2.1 (rg_ hC T0.1) km_RX12_545 cv_X12_joinedBits rfl (by decide) rfl rfl (Nat.le_of_ble_eq_true rfl) dX12_growth_86 ?_
    cases h
    exact g_iret C dX12_growth_89 hr hlk
  replace h := if_f h c13
  refine g_tdef C (x := x1) 90 dX12_growth_7 (by intro a ha h1 h2; exact absurd h2 (by omega)) rfl ?_
  refine g_iconst C (n := (-1)) dX12_growth_90 (by decide) ?_
  cases h
  exact g_iret C dX12_growth_91 hr hlk
theorem dX12_hold_0 : decode cX12_hold 0 = .ok (.iload_n 1, 1) := by decide +kernel
theorem dX12_hold_1 : decode cX12_hold 1 = .ok (.iconst 0, 1) := by decide +kernel
theorem dX12_hold_2 : decode cX12_hold 2 = .ok (.iconst 2, 1) := by decide +kernel
theorem dX12_hold_3 : decode cX12_hold 3 = .ok (.invokestatic 334, 3) := by decide +kernel
theorem dX12_hold_6 : decode cX12_hold 6 = .ok (.ifCond .ne 5, 3) := by decide +kernel
theorem dX12_hold_9 : decode cX12_hold 9 = .ok (.iconst 0, 1) := by decide +kernel
theorem dX12_hold_10 : decode cX12_hold 10 = .ok (.ireturn, 1) := by decide +kernel
theorem dX12_hold_11 : decode cX12_hold 11 = .ok (.aload_n 0, 1) := by decide +kernel
theorem dX12_hold_12 : decode cX12_hold 12 = .ok (.getfield 188, 3) := by decide +kernel
theorem dX12_hold_15 : decode cX12_hold 15 = .ok (.iload_n 1, 1) := by decide +kernel
theorem dX12_hold_16 : decode cX12_hold 16 = .ok (.iconst 1, 1) := by decide +kernel
theorem dX12_hold_17 : decode cX12_hold 17 = .ok (.bastore, 1) := by decide +kernel
theorem dX12_hold_18 : decode cX12_hold 18 = .ok (.iconst 0, 1) := by decide +kernel
theorem dX12_hold_19 : decode cX12_hold 19 = .ok (.istore_n 2, 1) := by decide +kernel
theorem dX12_hold_20 : decode cX12_hold 20 = .ok (.iload_n 2, 1) := by decide +kernel
theorem dX12_hold_21 : decode cX12_hold 21 = .ok (.bipush 47, 2) := by decide +kernel
theorem dX12_hold_23 : decode cX12_hold 23 = .ok (.if_icmp .ge 26, 3) := by decide +kernel
theorem dX12_hold_26 : decode cX12_hold 26 = .ok (.aload_n 0, 1) := by decide +kernel
theorem dX12_hold_27 : decode cX12_hold 27 = .ok (.getfield 191, 3) := by decide +kernel
theorem dX12_hold_30 : decode cX12_hold 30 = .ok (.bipush 47, 2) := by decide +kernel
theorem dX12_hold_32 : decode cX12_hold 32 = .ok (.iload_n 1, 1) := by decide +kernel
theorem dX12_hold_33 : decode cX12_hold 33 = .ok (.imul, 1) := by decide +kernel
theorem dX12_hold_34 : decode cX12_hold 34 = .ok (.iload_n 2, 1) := by decide +kernel
theorem dX12_hold_35 : decode cX12_hold 35 = .ok (.iadd, 1) := by decide +kernel
theorem dX12_hold_36 : decode cX12_hold 36 = .ok (.aload_n 0, 1) := by decide +kernel
theorem dX12_hold_37 : decode cX12_hold 37 = .ok (.getfield 85, 3) := by decide +kernel
theorem dX12_hold_40 : decode cX12_hold 40 = .ok (.iload_n 2, 1) := by decide +kernel
theorem dX12_hold_41 : decode cX12_hold 41 = .ok (.iaload, 1) := by decide +kernel
theorem dX12_hold_42 : decode cX12_hold 42 = .ok (.iastore, 1) := by decide +kernel
theorem dX12_hold_43 : decode cX12_hold 43 = .ok (.iinc 2 1, 3) := by decide +kernel
theorem dX12_hold_46 : decode cX12_hold 46 = .ok (.goto (-26), 3) := by decide +kernel
theorem dX12_hold_49 : decode cX12_hold 49 = .ok (.iconst 1, 1) := by decide +kernel
theorem dX12_hold_50 : decode cX12_hold 50 = .ok (.ireturn, 1) := by decide +kernel
def fX12_hold_20 : Nat → Int → Int → Int → V_ → Option (Int × V_)
  | 0, _, _, _, _ => none
  | n + 1, x0, x1, x2, v =>
    if 47 ≤ x2 then (
      some (1, v))
    else (
      ck_ (0 ≤ x2 ∧ x2 < 47) (
      ck_ (0 ≤ wr_ ((wr_ (47 * x1)) + x2) ∧ wr_ ((wr_ (47 * x1)) + x2) < 141) (
      lt_ (up_ v (x0 + 58) (wr_ ((wr_ (47 * x1)) + x2)) (v (x0 + 23) x2)) fun v11 =>
      lt_ (wr_ (x2 + 1)) fun y12 =>
      (fX12_hold_20 n) x0 x1 y12 v11)))
def fX12_hold (x0 x1 : Int) (v : V_) : Option (Int × V_) :=
  bd_ (fX12_in x1 0 2 v) fun q1 =>
  if q1.1 = 0 then (
    some (0, q1.2))
  else (
    ck_ (0 ≤ x1 ∧ x1 < 3) (
    lt_ (up_ q1.2 (x0 + 57) x1 1) fun v5 =>
    fX12_hold_20 fu_ x0 x1 0 v5))
section
variable {E : En_} {p : Program} {l : Launch} {e : Env} {s : State} {m : MethodId} {args : Array Value} {below : List Frame} {meth : Method} {c : Code} {sz : Int}
theorem tX12_hold_20 (C : MC_ E p s m c cX12_hold 3 RX12) (hr : meth.sig.returnType = (some FieldType.boolean)) (hlk : meth.locks = false) (hC : Cl_ E.2.2.2.2.2 sz) {out : Int × V_} : ∀ (n : Nat) (x0 x1 x2 : Int) (v : V_), (E.2.2.2.2.2 x0 ∧ ty_ x0 = 12 ∧ ln_ x0 = 0) → fX12_hold_20 n x0 x1 x2 v = some out → G_ E p l e (rm_ 1 22) s m args below meth c 3 sz (Q_ E below args s sz sz 0 out.1 out.2) 20 [(0, (2, x0)), (1, (0, x1)), (2, (0, x2))] [] v sz := by
  intro n
  induction n with
  | zero =>
    intro x0 x1 x2 v T0 h
    cases h
  | succ n H_20 =>
    intro x0 x1 x2 v T0 h
    rw [fX12_hold_20] at h
    refine g_iload_n C (f := 2) dX12_hold_20 2 rfl ?_
    refine g_bipush C (n := 47) dX12_hold_21 (by decide) ?_
    refine g_icmp_ge C 49 dX12_hold_23 rfl (fun c6 => ?_) (fun c6 => ?_)
    · replace h := if_t h c6
      refine g_iconst C (n := 1) dX12_hold_49 (by decide) ?_
      cases h
      exact g_zret C dX12_hold_50 hr hlk (Or.inr rfl)
    · replace h := if_f h c6
      refine g_aload_n C (f := 0) dX12_hold_26 0 rfl ?_
      have F7 := fX12_81 hC T0.1 T0.2.1
      refine g_getR C (k := 81) (o := 58) okX12 (by decide) kf_RX12_191 dX12_hold_27 hC T0.1 T0.2.1 rfl rfl ?_
      refine g_bipush C (n := 47) dX12_hold_30 (by decide) ?_
      refine g_iload_n C (f := 1) dX12_hold_32 1 rfl ?_
      refine g_imul C dX12_hold_33 ?_
      refine g_iload_n C (f := 2) dX12_hold_34 2 rfl ?_
      refine g_iadd C dX12_hold_35 ?_
      refine g_aload_n C (f := 0) dX12_hold_36 0 rfl ?_
      have F8 := fX12_36 hC T0.1 T0.2.1
      refine g_getR C (k := 36) (o := 23) okX12 (by decide) kf_RX12_85 dX12_hold_37 hC T0.1 T0.2.1 rfl rfl ?_
      refine g_iload_n C (f := 2) dX12_hold_40 2 rfl ?_
      obtain ⟨c9, h⟩ := ck_e h
      refine g_iald C 47 dX12_hold_41 (rg_ hC F8.1) F8.2.1 F8.2.2 c9 ?_
      obtain ⟨c10, h⟩ := ck_e h
      obtain ⟨v11, ev11, h⟩ := lt_e h
      refine g_iast C 141 dX12_hold_42 (rg_ hC F7.1) F7.2.1 F7.2.2 c10 v11 ev11 ?_
      obtain ⟨y12, ey12, h⟩ := lt_e h
      refine g_iincx C (ls' := [(2, (0, y12)), (0, (2, x0)), (1, (0, x1))]) ey12 dX12_hold_43 2 rfl (by decide) (by decide) rfl ?_
      refine g_goto C 20 dX12_hold_46 rfl ?_
      refine g_sub [1, 2, 0] rfl rfl ?_
      exact H_20 _ _ _ _ T0 h
end
theorem cX12_hold_ok (l : Launch) {E : En_} {sz : Int} (hC : Cl_ E.2.2.2.2.2 sz) {x0 x1 : Int} {v : V_} {out : Int × V_} (T0 : (E.2.2.2.2.2 x0 ∧ ty_ x0 = 12 ∧ ln_ x0 = 0)) (h : fX12_hold x0 x1 v = some out) : Met l yX12_hold [.code yX12_hold cX12_hold 3 (some FieldType.boolean)] (rm_ 1 22) (Pc_ E sz v [(2, x0), (0, x1)]) (Qc_ E sz 0 out.1 out.2) 0 0 (fun q => E.1 < q) := by
  refine met_G0 RX12 (by decide +kernel) rfl (Nat.le_of_ble_eq_true rfl) ?_
  intro p e s m args below meth c C hr hlk
  rw [fX12_hold] at h
  refine g_iload_n C (f := 1) dX12_hold_0 1 rfl ?_
  refine g_iconst C (n := 0) dX12_hold_1 (by decide) ?_
  refine g_iconst C (n := 2) dX12_hold_2 (by decide) ?_
  obtain ⟨q1, eq1, h⟩ := bd_e h
  refine g_cS C [(0, x1), (0, 0), (0, 2)] (cX12_in_ok l hC eq1) km_RX12_334 cs_X12_in rfl (by decide) rfl rfl (Nat.le_of_ble_eq_true rfl) dX12_hold_3 ?_
  refine g_if_ne C 11 dX12_hold_6 rfl (fun c2 => ?_) (fun c2 => ?_)
  · replace h := if_f h c2
    refine g_aload_n C (f := 0) dX12_hold_11 0 rfl ?_
    have F3 := fX12_80 hC T0.1 T0.2.1
    refine g_getR C (k := 80) (o := 57) okX12 (by decide) kf_RX12_188 dX12_hold_12 hC T0.1 T0.2.1 rfl rfl ?_
    refine g_iload_n C (f := 1) dX12_hold_15 1 rfl ?_
    refine g_iconst C (n := 1) dX12_hold_16 (by decide) ?_
    obtain ⟨c4, h⟩ := ck_e h
    obtain ⟨v5, ev5, h⟩ := lt_e h
    refine g_zast C 3 dX12_hold_17 (rg_ hC F3.1) F3.2.1 F3.2.2 c4 (Or.inr rfl) v5 ev5 ?_
    refine g_iconst C (n := 0) dX12_hold_18 (by decide) ?_
    refine g_istore_n C (f := 2) (ls' := [(2, (0, 0)), (0, (2, x0)), (1, (0, x1))]) dX12_hold_19 (by decide) rfl ?_
    refine g_sub [1, 2, 0] rfl rfl ?_
    exact tX12_hold_20 C hr hlk hC _ _ _ _ _ T0 h
  · replace h := if_t h c2
    refine g_iconst C (n := 0) dX12_hold_9 (by decide) ?_
    cases h
    exact g_zret C dX12_hold_10 hr hlk (Or.inl rfl)
theorem dX12_isRegister_0 : decode cX12_isRegister 0 = .ok (.aload_n 0, 1) := by decide +kernel
theorem dX12_isRegister_1 : decode cX12_isRegister 1 = .ok (.getfield 245, 3) := by decide +kernel
theorem dX12_isRegister_4 : decode cX12_isRegister 4 = .ok (.ifCond .ne 35, 3) := by decide +kernel
theorem dX12_isRegister_7 : decode cX12_isRegister 7 = .ok (.aload_n 0, 1) := by decide +kernel
theorem dX12_isRegister_8 : decode cX12_isRegister 8 = .ok (.getfield 20, 3) := by decide +kernel
theorem dX12_isRegister_11 : decode cX12_isRegister 11 = .ok (.aload_n 0, 1) := by decide +kernel
theorem dX12_isRegister_12 : decode cX12_isRegister 12 = .ok (.getfield 248, 3) := by decide +kernel
theorem dX12_isRegister_15 : decode cX12_isRegister 15 = .ok (.iaload, 1) := by decide +kernel
theorem dX12_isRegister_16 : decode cX12_isRegister 16 = .ok (.bipush 31, 2) := by decide +kernel
theorem dX12_isRegister_18 : decode cX12_isRegister 18 = .ok (.if_icmp .lt 21, 3) := by decide +kernel
theorem dX12_isRegister_21 : decode cX12_isRegister 21 = .ok (.aload_n 0, 1) := by decide +kernel
theorem dX12_isRegister_22 : decode cX12_isRegister 22 = .ok (.getfield 20, 3) := by decide +kernel
theorem dX12_isRegister_25 : decode cX12_isRegister 25 = .ok (.aload_n 0, 1) := by decide +kernel
theorem dX12_isRegister_26 : decode cX12_isRegister 26 = .ok (.getfield 248, 3) := by decide +kernel
theorem dX12_isRegister_29 : decode cX12_isRegister 29 = .ok (.iaload, 1) := by decide +kernel
theorem dX12_isRegister_30 : decode cX12_isRegister 30 = .ok (.bipush 36, 2) := by decide +kernel
theorem dX12_isRegister_32 : decode cX12_isRegister 32 = .ok (.if_icmp .gt 7, 3) := by decide +kernel
theorem dX12_isRegister_35 : decode cX12_isRegister 35 = .ok (.iconst 1, 1) := by decide +kernel
theorem dX12_isRegister_36 : decode cX12_isRegister 36 = .ok (.goto 4, 3) := by decide +kernel
theorem dX12_isRegister_39 : decode cX12_isRegister 39 = .ok (.iconst 0, 1) := by decide +kernel
theorem dX12_isRegister_40 : decode cX12_isRegister 40 = .ok (.ireturn, 1) := by decide +kernel
def fX12_isRegister (x0 : Int) (v : V_) : Option (Int × V_) :=
  if (v x0 13) = 0 then (
    ck_ (0 ≤ v x0 11 ∧ v x0 11 < 403) (
    if (v (x0 + 3) (v x0 11)) < 31 then (
      some (0, v))
    else (
      ck_ (0 ≤ v x0 11 ∧ v x0 11 < 403) (
      if 36 < (v (x0 + 3) (v x0 11)) then (
        some (0, v))
      else (
        some (1, v))))))
  else (
    some (0, v))
theorem cX12_isRegister_ok (l : Launch) {E : En_} {sz : Int} (hC : Cl_ E.2.2.2.2.2 sz) {x0 : Int} {v : V_} {out : Int × V_} (T0 : (E.2.2.2.2.2 x0 ∧ ty_ x0 = 12 ∧ ln_ x0 = 0)) (h : fX12_isRegister x0 v = some out) : Met l yX12_isRegister [.code yX12_isRegister cX12_isRegister 1 (some FieldType.boolean)] (rm_ 0 0) (Pc_ E sz v [(2, x0)]) (Qc_ E sz 0 out.1 out.2) 0 0 (fun q => E.1 < q) := by
  refine met_G0 RX12 (by decide +kernel) rfl (Nat.le_of_ble_eq_true rfl) ?_
  intro p e s m args below meth c C hr hlk
  rw [fX12_isRegister] at h
  refine g_aload_n C (f := 0) dX12_isRegister_0 0 rfl ?_
  refine g_getf C (k := 13) (kd := 0) okX12 (by decide) kf_RX12_245 dX12_isRegister_1 (rg_ hC T0.1) T0.2.1 rfl ?_
  refine g_if_ne C 39 dX12_isRegister_4 rfl (fun c1 => ?_) (fun c1 => ?_)
  · replace h := if_f h c1
    refine g_iconst C (n := 0) dX12_isRegister_39 (by decide) ?_
    cases h
    exact g_zret C dX12_isRegister_40 hr hlk (Or.inl rfl)
  · replace h := if_t h c1
    refine g_aload_n C (f := 0) dX12_isRegister_7 0 rfl ?_
    have F2 := fX12_5 hC T0.1 T0.2.1
    refine g_getR C (k := 5) (o := 3) okX12 (by decide) kf_RX12_20 dX12_isRegister_8 hC T0.1 T0.2.1 rfl rfl ?_
    refine g_aload_n C (f := 0) dX12_isRegister_11 0 rfl ?_
    refine g_getf C (k := 11) (kd := 0) okX12 (by decide) kf_RX12_248 dX12_isRegister_12 (rg_ hC T0.1) T0.2.1 rfl ?_
    obtain ⟨c3, h⟩ := ck_e h
    refine g_iald C 403 dX12_isRegister_15 (rg_ hC F2.1) F2.2.1 F2.2.2 c3 ?_
    refine g_bipush C (n := 31) dX12_isRegister_16 (by decide) ?_
    refine g_icmp_lt C 39 dX12_isRegister_18 rfl (fun c4 => ?_) (fun c4 => ?_)
    · replace h := if_t h c4
      refine g_iconst C (n := 0) dX12_isRegister_39 (by decide) ?_
      cases h
      exact g_zret C dX12_isRegister_40 hr hlk (Or.inl rfl)
    · replace h := if_f h c4
      refine g_aload_n C (f := 0) dX12_isRegister_21 0 rfl ?_
      have F5 := fX12_5 hC T0.1 T0.2.1
      refine g_getR C (k := 5) (o := 3) okX12 (by decide) kf_RX12_20 dX12_isRegister_22 hC T0.1 T0.2.1 rfl rfl ?_
      refine g_aload_n C (f := 0) dX12_isRegister_25 0 rfl ?_
      refine g_getf C (k := 11) (kd := 0) okX12 (by decide) kf_RX12_248 dX12_isRegister_26 (rg_ hC T0.1) T0.2.1 rfl ?_
      obtain ⟨c6, h⟩ := ck_e h
      refine g_iald C 403 dX12_isRegister_29 (rg_ hC F5.1) F5.2.1 F5.2.2 c6 ?_
      refine g_bipush C (n := 36) dX12_isRegister_30 (by decide) ?_
      refine g_icmp_gt C 39 dX12_isRegister_32 rfl (fun c7 => ?_) (fun c7 => ?_)
      · replace h := if_t h c7
        refine g_iconst C (n := 0) dX12_isRegister_39 (by decide) ?_
        cases h
        exact g_zret C dX12_isRegister_40 hr hlk (Or.inl rfl)
      · replace h := if_f h c7
        refine g_iconst C (n := 1) dX12_isRegister_35 (by decide) ?_
        refine g_goto C 40 dX12_isRegister_36 rfl ?_
        cases h
        exact g_zret C dX12_isRegister_40 hr hlk (Or.inr rfl)
theorem dX12_item_0 : decode cX12_item 0 = .ok (.aload_n 0, 1) := by decide +kernel
theorem dX12_item_1 : decode cX12_item 1 = .ok (.invokevirtual 542, 3) := by decide +kernel
theorem dX12_item_4 : decode cX12_item 4 = .ok (.aload_n 0, 1) := by decide +kernel
theorem dX12_item_5 : decode cX12_item 5 = .ok (.iload_n 1, 1) := by decide +kernel
theorem dX12_item_6 : decode cX12_item 6 = .ok (.iload_n 2, 1) := by decide +kernel
theorem dX12_item_7 : decode cX12_item 7 = .ok (.invokevirtual 585, 3) := by decide +kernel
theorem dX12_item_10 : decode cX12_item 10 = .ok (.ifCond .ne 5, 3) := by decide +kernel
theorem dX12_item_13 : decode cX12_item 13 = .ok (.iconst (-1), 1) := by decide +kernel
theorem dX12_item_14 : decode cX12_item 14 = .ok (.ireturn, 1) := by decide +kernel
theorem dX12_item_15 : decode cX12_item 15 = .ok (.bipush 34, 2) := by decide +kernel
theorem dX12_item_17 : decode cX12_item 17 = .ok (.iload_n 1, 1) := by decide +kernel
theorem dX12_item_18 : decode cX12_item 18 = .ok (.imul, 1) := by decide +kernel
theorem dX12_item_19 : decode cX12_item 19 = .ok (.iload_n 2, 1) := by decide +kernel
theorem dX12_item_20 : decode cX12_item 20 = .ok (.iadd, 1) := by decide +kernel
theorem dX12_item_21 : decode cX12_item 21 = .ok (.istore 4, 2) := by decide +kernel
theorem dX12_item_23 : decode cX12_item 23 = .ok (.iload_n 3, 1) := by decide +kernel
theorem dX12_item_24 : decode cX12_item 24 = .ok (.tableswitch 157 0 8 #[52, 60, 68, 76, 84, 92, 100, 115, 122], 52) := by decide +kernel
theorem dX12_item_76 : decode cX12_item 76 = .ok (.aload_n 0, 1) := by decide +kernel
theorem dX12_item_77 : decode cX12_item 77 = .ok (.getfield 121, 3) := by decide +kernel
theorem dX12_item_80 : decode cX12_item 80 = .ok (.iload 4, 2) := by decide +kernel
theorem dX12_item_82 : decode cX12_item 82 = .ok (.iaload, 1) := by decide +kernel
theorem dX12_item_83 : decode cX12_item 83 = .ok (.ireturn, 1) := by decide +kernel
theorem dX12_item_84 : decode cX12_item 84 = .ok (.aload_n 0, 1) := by decide +kernel
theorem dX12_item_85 : decode cX12_item 85 = .ok (.getfield 148, 3) := by decide +kernel
theorem dX12_item_88 : decode cX12_item 88 = .ok (.iload 4, 2) := by decide +kernel
theorem dX12_item_90 : decode cX12_item 90 = .ok (.iaload, 1) := by decide +kernel
theorem dX12_item_91 : decode cX12_item 91 = .ok (.ireturn, 1) := by decide +kernel
theorem dX12_item_92 : decode cX12_item 92 = .ok (.aload_n 0, 1) := by decide +kernel
theorem dX12_item_93 : decode cX12_item 93 = .ok (.getfield 124, 3) := by decide +kernel
theorem dX12_item_96 : decode cX12_item 96 = .ok (.iload 4, 2) := by decide +kernel
theorem dX12_item_98 : decode cX12_item 98 = .ok (.iaload, 1) := by decide +kernel
theorem dX12_item_99 : decode cX12_item 99 = .ok (.ireturn, 1) := by decide +kernel
theorem dX12_item_100 : decode cX12_item 100 = .ok (.aload_n 0, 1) := by decide +kernel
theorem dX12_item_101 : decode cX12_item 101 = .ok (.getfield 127, 3) := by decide +kernel
theorem dX12_item_104 : decode cX12_item 104 = .ok (.iload 4, 2) := by decide +kernel
theorem dX12_item_106 : decode cX12_item 106 = .ok (.iaload, 1) := by decide +kernel
theorem dX12_item_107 : decode cX12_item 107 = .ok (.ireturn, 1) := by decide +kernel
theorem dX12_item_108 : decode cX12_item 108 = .ok (.aload_n 0, 1) := by decide +kernel
theorem dX12_item_109 : decode cX12_item 109 = .ok (.getfield 151, 3) := by decide +kernel
theorem dX12_item_112 : decode cX12_item 112 = .ok (.iload 4, 2) := by decide +kernel
theorem dX12_item_114 : decode cX12_item 114 = .ok (.iaload, 1) := by decide +kernel
theorem dX12_item_115 : decode cX12_item 115 = .ok (.ireturn, 1) := by decide +kernel
theorem dX12_item_116 : decode cX12_item 116 = .ok (.aload_n 0, 1) := by decide +kernel
theorem dX12_item_117 : decode cX12_item 117 = .ok (.getfield 136, 3) := by decide +kernel
theorem dX12_item_120 : decode cX12_item 120 = .ok (.iload 4, 2) := by decide +kernel
theorem dX12_item_122 : decode cX12_item 122 = .ok (.iaload, 1) := by decide +kernel
theorem dX12_item_123 : decode cX12_item 123 = .ok (.ireturn, 1) := by decide +kernel
theorem dX12_item_124 : decode cX12_item 124 = .ok (.aload_n 0, 1) := by decide +kernel
theorem dX12_item_125 : decode cX12_item 125 = .ok (.iload_n 1, 1) := by decide +kernel
theorem dX12_item_126 : decode cX12_item 126 = .ok (.iload_n 2, 1) := by decide +kernel
theorem dX12_item_127 : decode cX12_item 127 = .ok (.invokevirtual 509, 3) := by decide +kernel
theorem dX12_item_130 : decode cX12_item 130 = .ok (.ifCond .eq 7, 3) := by decide +kernel
theorem dX12_item_133 : decode cX12_item 133 = .ok (.iconst 1, 1) := by decide +kernel
theorem dX12_item_134 : decode cX12_item 134 = .ok (.goto 4, 3) := by decide +kernel
theorem dX12_item_137 : decode cX12_item 137 = .ok (.iconst 0, 1) := by decide +kernel
theorem dX12_item_138 : decode cX12_item 138 = .ok (.ireturn, 1) := by decide +kernel
theorem dX12_item_139 : decode cX12_item 139 = .ok (.aload_n 0, 1) := by decide +kernel
theorem dX12_item_140 : decode cX12_item 140 = .ok (.iload_n 1, 1) := by decide +kernel
theorem dX12_item_141 : decode cX12_item 141 = .ok (.iload_n 2, 1) := by decide +kernel
theorem dX12_item_142 : decode cX12_item 142 = .ok (.invokevirtual 564, 3) := by decide +kernel
theorem dX12_item_145 : decode cX12_item 145 = .ok (.ireturn, 1) := by decide +kernel
theorem dX12_item_146 : decode cX12_item 146 = .ok (.aload_n 0, 1) := by decide +kernel
theorem dX12_item_147 : decode cX12_item 147 = .ok (.getfield 121, 3) := by decide +kernel
theorem dX12_item_150 : decode cX12_item 150 = .ok (.iload 4, 2) := by decide +kernel
theorem dX12_item_152 : decode cX12_item 152 = .ok (.iaload, 1) := by decide +kernel
theorem dX12_item_153 : decode cX12_item 153 = .ok (.iconst 2, 1) := by decide +kernel
theorem dX12_item_154 : decode cX12_item 154 = .ok (.if_icmp .ne 24, 3) := by decide +kernel
theorem dX12_item_157 : decode cX12_item 157 = .ok (.aload_n 0, 1) := by decide +kernel
theorem dX12_item_158 : decode cX12_item 158 = .ok (.aload_n 0, 1) := by decide +kernel
theorem dX12_item_159 : decode cX12_item 159 = .ok (.getfield 124, 3) := by decide +kernel
theorem dX12_item_162 : decode cX12_item 162 = .ok (.iload 4, 2) := by decide +kernel
theorem dX12_item_164 : decode cX12_item 164 = .ok (.iaload, 1) := by decide +kernel
theorem dX12_item_165 : decode cX12_item 165 = .ok (.aload_n 0, 1) := by decide +kernel
theorem dX12_item_166 : decode cX12_item 166 = .ok (.getfield 145, 3) := by decide +kernel
theorem dX12_item_169 : decode cX12_item 169 = .ok (.iload 4, 2) := by decide +kernel
theorem dX12_item_171 : decode cX12_item 171 = .ok (.iaload, 1) := by decide +kernel
theorem dX12_item_172 : decode cX12_item 172 = .ok (.invokevirtual 378, 3) := by decide +kernel
theorem dX12_item_175 : decode cX12_item 175 = .ok (.goto 5, 3) := by decide +kernel
theorem dX12_item_178 : decode cX12_item 178 = .ok (.bipush (-2), 2) := by decide +kernel
theorem dX12_item_180 : decode cX12_item 180 = .ok (.ireturn, 1) := by decide +kernel
theorem dX12_item_181 : decode cX12_item 181 = .ok (.iconst (-1), 1) := by decide +kernel
theorem dX12_item_182 : decode cX12_item 182 = .ok (.ireturn, 1) := by decide +kernel
def fX12_item (x0 x1 x2 x3 : Int) (v : V_) : Option (Int × V_) :=
  bd_ (fX12_plansAll x0 v) fun q1 =>
  bd_ (fX12_isItem x0 x1 x2 q1.2) fun q2 =>
  if q2.1 = 0 then (
    some ((-1), q2.2))
  else (
    lt_ (wr_ ((wr_ (34 * x1)) + x2)) fun y4 =>
    if x3 = 0 then (
      ck_ (0 ≤ y4 ∧ y4 < 272) (
      some (q2.2 (x0 + 35) y4, q2.2)))
    else (
    if x3 = 1 then (
      ck_ (0 ≤ y4 ∧ y4 < 272) (
      some (q2.2 (x0 + 44) y4, q2.2)))
    else (
    if x3 = 2 then (
      ck_ (0 ≤ y4 ∧ y4 < 272) (
      some (q2.2 (x0 + 36) y4, q2.2)))
    else (
    if x3 = 3 then (
      ck_ (0 ≤ y4 ∧ y4 < 272) (
      some (q2.2 (x0 + 37) y4, q2.2)))
    else (
    if x3 = 4 then (
      ck_ (0 ≤ y4 ∧ y4 < 272) (
      some (q2.2 (x0 + 45) y4, q2.2)))
    else (
    if x3 = 5 then (
      ck_ (0 ≤ y4 ∧ y4 < 272) (
      some (q2.2 (x0 + 40) y4, q2.2)))
    else (
    if x3 = 6 then (
      bd_ (fX12_isGuess x0 x1 x2 q2.2) fun q24 =>
      if q24.1 = 0 then (
        some (0, q24.2))
      else (
        some (1, q24.2)))
    else (
    if x3 = 7 then (
      bd_ (fX12_copiedMany x0 x1 x2 q2.2) fun q27 =>
      some (q27.1, q27.2))
    else (
    if x3 = 8 then (
      ck_ (0 ≤ y4 ∧ y4 < 272) (
      if (q2.2 (x0 + 35) y4) = 2 then (
        ck_ (0 ≤ y4 ∧ y4 < 272) (
        ck_ (0 ≤ y4 ∧ y4 < 272) (
        bd_ (fX12_wayTo x0 (q2.2 (x0 + 36) y4) (q2.2 (x0 + 43) y4) q2.2) fun q36 =>
        some (q36.1, q36.2))))
      else (
        some ((-2), q2.2))))
    else (
    some ((-1), q2.2)))))))))))
theorem cX12_item_ok (l : Launch) {E : En_} {sz : Int} (hC : Cl_ E.2.2.2.2.2 sz) {x0 x1 x2 x3 : Int} {v : V_} {out : Int × V_} (T0 : (E.2.2.2.2.2 x0 ∧ ty_ x0 = 12 ∧ ln_ x0 = 0)) (h : fX12_item x0 x1 x2 x3 v = some out) : Met l yX12_item [.code yX12_item cX12_item 5 (some FieldType.int)] (rm_ 6 133) (Pc_ E sz v [(2, x0), (0, x1), (0, x2), (0, x3)]) (Qc_ E sz 0 out.1 out.2) 0 0 (fun q => E.1 < q) := by
  refine met_G0 RX12 (by decide +kernel) rfl (Nat.le_of_ble_eq_true rfl) ?_
  intro p e s m args below meth c C hr hlk
  rw [fX12_item] at h
  refine g_aload_n C (f := 0) dX12_item_0 0 rfl ?_
  obtain ⟨q1, eq1, h⟩ := bd_e h
  refine g_cV C [] (cX12_plansAll_ok l hC T0 eq1) okX12 T0.2.1 (rg_ hC T0.1) km_RX12_542 cv_X12_plansAll rfl (by decide) rfl rfl (Nat.le_of_ble_eq_true rfl) dX12_item_1 ?_
  refine g_aload_n C (f := 0) dX12_item_4 0 rfl ?_
  refine g_iload_n C (f := 1) dX12_item_5 1 rfl ?_
  refine g_iload_n C (f := 2) dX12_item_6 2 rfl ?_
  obtain ⟨q2, eq2, h⟩ := bd_e h
  refine g_cV C [(0, x1), (0, x2)] (cX12_isItem_ok l hC T0 eq2) okX12 T0.2.1 (rg_ hC T0.1) km_RX12_585 cv_X12_isItem rfl (by decide) rfl rfl (Nat.le_of_ble_eq_true rfl) dX12_item_7 ?_
  refine g_if_ne C 15 dX12_item_10 rfl (fun c3 => ?_) (fun c3 => ?_)
  · replace h := if_f h c3
    refine g_bipush C (n := 34) dX12_item_15 (by decide) ?_
    refine g_iload_n C (f := 1) dX12_item_17 1 rfl ?_
    refine g_imul C dX12_item_18 ?_
    refine g_iload_n C (f := 2) dX12_item_19 2 rfl ?_
    refine g_iadd C dX12_item_20 ?_
    obtain ⟨y4, ey4, h⟩ := lt_e h
    refine g_set C ey4 ?_
    refine g_istore C (i := 4) (ls' := [(4, (0, y4)), (0, (2, x0)), (1, (0, x1)), (2, (0, x2)), (3, (0, x3))]) dX12_item_21 (by decide) rfl ?_
    refine g_iload_n C (f := 3) dX12_item_23 4 rfl ?_
    by_cases c5 : x3 = 0
    · replace h := if_t h c5
      refine g_tin C 76 dX12_item_24 0 c5 (by decide) (by decide) rfl rfl ?_
      refine g_aload_n C (f := 0) dX12_item_76 1 rfl ?_
      have F6 := fX12_54 hC T0.1 T0.2.1
      refine g_getR C (k := 54) (o := 35) okX12 (by decide) kf_RX12_121 dX12_item_77 hC T0.1 T0.2.1 rfl rfl ?_
      refine g_iload C (i := 4) dX12_item_80 0 rfl ?_
      obtain ⟨c7, h⟩ := ck_e h
      refine g_iald C 272 dX12_item_82 (rg_ hC F6.1) F6.2.1 F6.2.2 c7 ?_
      cases h
      exact g_iret C dX12_item_83 hr hlk
    replace h := if_f h c5
    by_cases c8 : x3 = 1
    · replace h := if_t h c8
      refine g_tin C 84 dX12_item_24 1 c8 (by decide) (by decide) rfl rfl ?_
      refine g_aload_n C (f := 0) dX12_item_84 1 rfl ?_
      have F9 := fX12_63 hC T0.1 T0.2.1
      refine g_getR C (k := 63) (o := 44) okX12 (by decide) kf_RX12_148 dX12_item_85 hC T0.1 T0.2.1 rfl rfl ?_
      refine g_iload C (i := 4) dX12_item_88 0 rfl ?_
      obtain ⟨c10, h⟩ := ck_e h
      refine g_iald C 272 dX12_item_90 (rg_ hC F9.1) F9.2.1 F9.2.2 c10 ?_
      cases h
      exact g_iret C dX12_item_91 hr hlk
    replace h := if_f h c8
    by_cases c11 : x3 = 2
    · replace h := if_t h c11
      refine g_tin C 92 dX12_item_24 2 c11 (by decide) (by decide) rfl rfl ?_
      refine g_aload_n C (f := 0) dX12_item_92 1 rfl ?_
      have F12 := fX12_55 hC T0.1 T0.2.1
      refine g_getR C (k := 55) (o := 36) okX12 (by decide) kf_RX12_124 dX12_item_93 hC T0.1 T0.2.1 rfl rfl ?_
      refine g_iload C (i := 4) dX12_item_96 0 rfl ?_
      obtain ⟨c13, h⟩ := ck_e h
      refine g_iald C 272 dX12_item_98 (rg_ hC F12.1) F12.2.1 F12.2.2 c13 ?_
      cases h
      exact g_iret C dX12_item_99 hr hlk
    replace h := if_f h c11
    by_cases c14 : x3 = 3
    · replace h := if_t h c14
      refine g_tin C 100 dX12_item_24 3 c14 (by decide) (by decide) rfl rfl ?_
      refine g_aload_n C (f := 0) dX12_item_100 1 rfl ?_
      have F15 := fX12_56 hC T0.1 T0.2.1
      refine g_getR C (k := 56) (o := 37) okX12 (by decide) kf_RX12_127 dX12_item_101 hC T0.1 T0.2.1 rfl rfl ?_
      refine g_iload C (i := 4) dX12_item_104 0 rfl ?_
      obtain ⟨c16, h⟩ := ck_e h
      refine g_iald C 272 dX12_item_106 (rg_ hC F15.1) F15.2.1 F15.2.2 c16 ?_
      cases h
      exact g_iret C dX12_item_107 hr hlk
    replace h := if_f h c14
    by_cases c17 : x3 = 4
    · replace h := if_t h c17
      refine g_tin C 108 dX12_item_24 4 c17 (by decide) (by decide) rfl rfl ?_
      refine g_aload_n C (f := 0) dX12_item_108 1 rfl ?_
      have F18 := fX12_64 hC T0.1 T0.2.1
      refine g_getR C (k := 64) (o := 45) okX12 (by decide) kf_RX12_151 dX12_item_109 hC T0.1 T0.2.1 rfl rfl ?_
      refine g_iload C (i := 4) dX12_item_112 0 rfl ?_
      obtain ⟨c19, h⟩ := ck_e h
      refine g_iald C 272 dX12_item_114 (rg_ hC F18.1) F18.2.1 F18.2.2 c19 ?_
      cases h
      exact g_iret C dX12_item_115 hr hlk
    replace h := if_f h c17
    by_cases c20 : x3 = 5
    · replace h := if_t h c20
      refine g_tin C 116 dX12_item_24 5 c20 (by decide) (by decide) rfl rfl ?_
      refine g_aload_n C (f := 0) dX12_item_116 1 rfl ?_
      have F21 := fX12_59 hC T0.1 T0.2.1
      refine g_getR C (k := 59) (o := 40) okX12 (by decide) kf_RX12_136 dX12_item_117 hC T0.1 T0.2.1 rfl rfl ?_
      refine g_iload C (i := 4) dX12_item_120 0 rfl ?_
      obtain ⟨c22, h⟩ := ck_e h
      refine g_iald C 272 dX12_item_122 (rg_ hC F21.1) F21.2.1 F21.2.2 c22 ?_
      cases h
      exact g_iret C dX12_item_123 hr hlk
    replace h := if_f h c20
    by_cases c23 : x3 = 6
    · replace h := if_t h c23
      refine g_tin C 124 dX12_item_24 6 c23 (by decide) (by decide) rfl rfl ?_
      refine g_aload_n C (f := 0) dX12_item_124 1 rfl ?_
      refine g_iload_n C (f := 1) dX12_item_125 2 rfl ?_
      refine g_iload_n C (f := 2) dX12_item_126 3 rfl ?_
      obtain ⟨q24, eq24, h⟩ := bd_e h
      refine g_cV C [(0, x1), (0, x2)] (cX12_isGuess_ok l hC T0 eq24) okX12 T0.2.1 (rg_ hC T0.1) km_RX12_509 cv_X12_isGuess rfl (by decide) rfl rfl (Nat.le_of_ble_eq_true rfl) dX12_item_127 ?_
      refine g_if_eq C 137 dX12_item_130 rfl (fun c25 => ?_) (fun c25 => ?_)
      · replace h := if_t h c25
        refine g_iconst C (n := 0) dX12_item_137 (by decide) ?_
        cases h
        exact g_iret C dX12_item_138 hr hlk
      · replace h := if_f h c25
        refine g_iconst C (n := 1) dX12_item_133 (by decide) ?_
        refine g_goto C 138 dX12_item_134 rfl ?_
        cases h
        exact g_iret C dX12_item_138 hr hlk
    replace h := if_f h c23
    by_cases c26 : x3 = 7
    · replace h := if_t h c26
      refine g_tin C 139 dX12_item_24 7 c26 (by decide) (by decide) rfl rfl ?_
      refine g_aload_n C (f := 0) dX12_item_139 1 rfl ?_
      refine g_iload_n C (f := 1) dX12_item_140 2 rfl ?_
      refine g_iload_n C (f := 2) dX12_item_141 3 rfl ?_
      obtain ⟨q27, eq27, h⟩ := bd_e h
      refine g_cV C [(0, x1), (0, x2)] (cX12_copiedMany_ok l hC T0 eq27) okX12 T0.2.1 (rg_ hC T0.1) km_RX12_564 cv_X12_copiedMany rfl (by decide) rfl rfl (Nat.le_of_ble_eq_true rfl) dX12_item_142 ?_
      cases h
      exact g_iret C dX12_item_145 hr hlk
    replace h := if_f h c26
    by_cases c28 : x3 = 8
    · replace h := if_t h c28
      refine g_tin C 146 dX12_item_24 8 c28 (by decide) (by decide) rfl rfl ?_
      refine g_aload_n C (f := 0) dX12_item_146 1 rfl ?_
      have F29 := fX12_54 hC T0.1 T0.2.1
      refine g_getR C (k := 54) (o := 35) okX12 (by decide) kf_RX12_121 dX12_item_147 hC T0.1 T0.2.1 rfl rfl ?_
      refine g_iload C (i := 4) dX12_item_150 0 rfl ?_
      obtain ⟨c30, h⟩ := ck_e h
      refine g_iald C 272 dX12_item_152 (rg_ hC F29.1) F29.2.1 F29.2.2 c30 ?_
      refine g_iconst C (n := 2) dX12_item_153 (by decide) ?_
      refine g_icmp_ne C 178 dX12_item_154 rfl (fun c31 => ?_) (fun c31 => ?_)
      · replace h := if_f h c31
        refine g_bipush C (n := (-2)) dX12_item_178 (by decide) ?_
        cases h
        exact g_iret C dX12_item_180 hr hlk
      · replace h := if_t h c31
        refine g_aload_n C (f := 0) dX12_item_157 1 rfl ?_
        refine g_aload_n C (f := 0) dX12_item_158 1 rfl ?_
        have F32 := fX12_55 hC T0.1 T0.2.1
        refine g_getR C (k := 55) (o := 36) okX12 (by decide) kf_RX12_124 dX12_item_159 hC T0.1 T0.2.1 rfl rfl ?_
        refine g_iload C (i := 4) dX12_item_162 0 rfl ?_
        obtain ⟨c33, h⟩ := ck_e h
        refine g_iald C 272 dX12_item_164 (rg_ hC F32.1) F32.2.1 F32.2.2 c33 ?_
        refine g_aload_n C (f := 0) dX12_item_165 1 rfl ?_
        have F34 := fX12_62 hC T0.1 T0.2.1
        refine g_getR C (k := 62) (o := 43) okX12 (by decide) kf_RX12_145 dX12_item_166 hC T0.1 T0.2.1 rfl rfl ?_
        refine g_iload C (i := 4) dX12_item_169 0 rfl ?_
        obtain ⟨c35, h⟩ := ck_e h
        refine g_iald C 272 dX12_item_171 (rg_ hC F34.1) F34.2.1 F34.2.2 c35 ?_
        obtain ⟨q36, eq36, h⟩ := bd_e h
        refine g_cV C [(0, q2.2 (x0 + 36) y4), (0, q2.2 (x0 + 43) y4)] (cX12_wayTo_ok l hC T0 eq36) okX12 T0.2.1 (rg_ hC T0.1) km_RX12_378 cv_X12_wayTo rfl (by decide) rfl rfl (Nat.le_of_ble_eq_true rfl) dX12_item_172 ?_
        refine g_goto C 180 dX12_item_175 rfl ?_
        cases h
        exact g_iret C dX12_item_180 hr hlk
    replace h := if_f h c28
    refine g_tdef C (x := x3) 181 dX12_item_24 (by intro a ha h1 h2; exact absurd h2 (by omega)) rfl ?_
    refine g_iconst C (n := (-1)) dX12_item_181 (by decide) ?_
    cases h
    exact g_iret C dX12_item_182 hr hlk
  · replace h := if_t h c3
    refine g_iconst C (n := (-1)) dX12_item_13 (by decide) ?_
    cases h
    exact g_iret C dX12_item_14 hr hlk
theorem dX12_kind_0 : decode cX12_kind 0 = .ok (.iload_n 1, 1) := by decide +kernel
theorem dX12_kind_1 : decode cX12_kind 1 = .ok (.iconst 0, 1) := by decide +kernel
theorem dX12_kind_2 : decode cX12_kind 2 = .ok (.iconst 3, 1) := by decide +kernel
theorem dX12_kind_3 : decode cX12_kind 3 = .ok (.invokestatic 334, 3) := by decide +kernel
theorem dX12_kind_6 : decode cX12_kind 6 = .ok (.ifCond .eq 28, 3) := by decide +kernel
theorem dX12_kind_9 : decode cX12_kind 9 = .ok (.iload_n 2, 1) := by decide +kernel
theorem dX12_kind_10 : decode cX12_kind 10 = .ok (.iconst 0, 1) := by decide +kernel
theorem dX12_kind_11 : decode cX12_kind 11 = .ok (.iconst 1, 1) := by decide +kernel
theorem dX12_kind_12 : decode cX12_kind 12 = .ok (.invokestatic 334, 3) := by decide +kernel
theorem dX12_kind_15 : decode cX12_kind 15 = .ok (.ifCond .eq 19, 3) := by decide +kernel
theorem dX12_kind_18 : decode cX12_kind 18 = .ok (.aload_n 0, 1) := by decide +kernel
theorem dX12_kind_19 : decode cX12_kind 19 = .ok (.getfield 85, 3) := by decide +kernel
theorem dX12_kind_22 : decode cX12_kind 22 = .ok (.bipush 39, 2) := by decide +kernel
theorem dX12_kind_24 : decode cX12_kind 24 = .ok (.iconst 4, 1) := by decide +kernel
theorem dX12_kind_25 : decode cX12_kind 25 = .ok (.iload_n 2, 1) := by decide +kernel
theorem dX12_kind_26 : decode cX12_kind 26 = .ok (.imul, 1) := by decide +kernel
theorem dX12_kind_27 : decode cX12_kind 27 = .ok (.iadd, 1) := by decide +kernel
theorem dX12_kind_28 : decode cX12_kind 28 = .ok (.iload_n 1, 1) := by decide +kernel
theorem dX12_kind_29 : decode cX12_kind 29 = .ok (.iadd, 1) := by decide +kernel
theorem dX12_kind_30 : decode cX12_kind 30 = .ok (.iaload, 1) := by decide +kernel
theorem dX12_kind_31 : decode cX12_kind 31 = .ok (.goto 4, 3) := by decide +kernel
theorem dX12_kind_34 : decode cX12_kind 34 = .ok (.iconst (-1), 1) := by decide +kernel
theorem dX12_kind_35 : decode cX12_kind 35 = .ok (.ireturn, 1) := by decide +kernel
def fX12_kind (x0 x1 x2 : Int) (v : V_) : Option (Int × V_) :=
  bd_ (fX12_in x1 0 3 v) fun q1 =>
  if q1.1 = 0 then (
    some ((-1), q1.2))
  else (
    bd_ (fX12_in x2 0 1 q1.2) fun q3 =>
    if q3.1 = 0 then (
      some ((-1), q3.2))
    else (
      ck_ (0 ≤ wr_ ((wr_ (39 + (wr_ (4 * x2)))) + x1) ∧ wr_ ((wr_ (39 + (wr_ (4 * x2)))) + x1) < 47) (
      some (q3.2 (x0 + 23) (wr_ ((wr_ (39 + (wr_ (4 * x2)))) + x1)), q3.2))))
theorem cX12_kind_ok (l : Launch) {E : En_} {sz : Int} (hC : Cl_ E.2.2.2.2.2 sz) {x0 x1 x2 : Int} {v : V_} {out : Int × V_} (T0 : (E.2.2.2.2.2 x0 ∧ ty_ x0 = 12 ∧ ln_ x0 = 0)) (h : fX12_kind x0 x1 x2 v = some out) : Met l yX12_kind [.code yX12_kind cX12_kind 3 (some FieldType.int)] (rm_ 1 22) (Pc_ E sz v [(2, x0), (0, x1), (0, x2)]) (Qc_ E sz 0 out.1 out.2) 0 0 (fun q => E.1 < q) := by
  refine met_G0 RX12 (by decide +kernel) rfl (Nat.le_of_ble_eq_true rfl) ?_
  intro p e s m args below meth c C hr hlk
  rw [fX12_kind] at h
  refine g_iload_n C (f := 1) dX12_kind_0 1 rfl ?_
  refine g_iconst C (n := 0) dX12_kind_1 (by decide) ?_
  refine g_iconst C (n := 3) dX12_kind_2 (by decide) ?_
  obtain ⟨q1, eq1, h⟩ := bd_e h
  refine g_cS C [(0, x1), (0, 0), (0, 3)] (cX12_in_ok l hC eq1) km_RX12_334 cs_X12_in rfl (by decide) rfl rfl (Nat.le_of_ble_eq_true rfl) dX12_kind_3 ?_
  refine g_if_eq C 34 dX12_kind_6 rfl (fun c2 => ?_) (fun c2 => ?_)
  · replace h := if_t h c2
    refine g_iconst C (n := (-1)) dX12_kind_34 (by decide) ?_
    cases h
    exact g_iret C dX12_kind_35 hr hlk
  · replace h := if_f h c2
    refine g_iload_n C (f := 2) dX12_kind_9 2 rfl ?_
    refine g_iconst C (n := 0) dX12_kind_10 (by decide) ?_
    refine g_iconst C (n := 1) dX12_kind_11 (by decide) ?_
    obtain ⟨q3, eq3, h⟩ := bd_e h
    refine g_cS C [(0, x2), (0, 0), (0, 1)] (cX12_in_ok l hC eq3) km_RX12_334 cs_X12_in rfl (by decide) rfl rfl (Nat.le_of_ble_eq_true rfl) dX12_kind_12 ?_
    refine g_if_eq C 34 dX12_kind_15 rfl (fun c4 => ?_) (fun c4 => ?_)
    · replace h := if_t h c4
      refine g_iconst C (n := (-1)) dX12_kind_34 (by decide) ?_
      cases h
      exact g_iret C dX12_kind_35 hr hlk
    · replace h := if_f h c4
      refine g_aload_n C (f := 0) dX12_kind_18 0 rfl ?_
      have F5 := fX12_36 hC T0.1 T0.2.1
      refine g_getR C (k := 36) (o := 23) okX12 (by decide) kf_RX12_85 dX12_kind_19 hC T0.1 T0.2.1 rfl rfl ?_
      refine g_bipush C (n := 39) dX12_kind_22 (by decide) ?_
      refine g_iconst C (n := 4) dX12_kind_24 (by decide) ?_
      refine g_iload_n C (f := 2) dX12_kind_25 2 rfl ?_
      refine g_imul C dX12_kind_26 ?_
      refine g_iadd C dX12_kind_27 ?_
      refine g_iload_n C (f := 1) dX12_kind_28 1 rfl ?_
      refine g_iadd C dX12_kind_29 ?_
      obtain ⟨c6, h⟩ := ck_e h
      refine g_iald C 47 dX12_kind_30 (rg_ hC F5.1) F5.2.1 F5.2.2 c6 ?_
      refine g_goto C 35 dX12_kind_31 rfl ?_
      cases h
      exact g_iret C dX12_kind_35 hr hlk
theorem dX12_known_0 : decode cX12_known 0 = .ok (.iconst 0, 1) := by decide +kernel
theorem dX12_known_1 : decode cX12_known 1 = .ok (.istore_n 2, 1) := by decide +kernel
theorem dX12_known_2 : decode cX12_known 2 = .ok (.iload_n 2, 1) := by decide +kernel
theorem dX12_known_3 : decode cX12_known 3 = .ok (.aload_n 0, 1) := by decide +kernel
theorem dX12_known_4 : decode cX12_known 4 = .ok (.getfield 278, 3) := by decide +kernel
theorem dX12_known_7 : decode cX12_known 7 = .ok (.if_icmp .ge 27, 3) := by decide +kernel
theorem dX12_known_10 : decode cX12_known 10 = .ok (.aload_n 0, 1) := by decide +kernel
theorem dX12_known_11 : decode cX12_known 11 = .ok (.getfield 40, 3) := by decide +kernel
theorem dX12_known_14 : decode cX12_known 14 = .ok (.iload_n 2, 1) := by decide +kernel
theorem dX12_known_15 : decode cX12_known 15 = .ok (.laload, 1) := by decide +kernel
theorem dX12_known_16 : decode cX12_known 16 = .ok (.aload_n 0, 1) := by decide +kernel
theorem dX12_known_17 : decode cX12_known 17 = .ok (.getfield 30, 3) := by decide +kernel
theorem dX12_known_20 : decode cX12_known 20 = .ok (.iload_n 1, 1) := by decide +kernel
theorem dX12_known_21 : decode cX12_known 21 = .ok (.laload, 1) := by decide +kernel
theorem dX12_known_22 : decode cX12_known 22 = .ok (.lcmp, 1) := by decide +kernel
theorem dX12_known_23 : decode cX12_known 23 = .ok (.ifCond .ne 5, 3) := by decide +kernel
theorem dX12_known_26 : decode cX12_known 26 = .ok (.iload_n 2, 1) := by decide +kernel
theorem dX12_known_27 : decode cX12_known 27 = .ok (.ireturn, 1) := by decide +kernel
theorem dX12_known_28 : decode cX12_known 28 = .ok (.iinc 2 1, 3) := by decide +kernel
theorem dX12_known_31 : decode cX12_known 31 = .ok (.goto (-29), 3) := by decide +kernel
theorem dX12_known_34 : decode cX12_known 34 = .ok (.aload_n 0, 1) := by decide +kernel
theorem dX12_known_35 : decode cX12_known 35 = .ok (.iconst 4, 1) := by decide +kernel
theorem dX12_known_36 : decode cX12_known 36 = .ok (.iload_n 1, 1) := by decide +kernel
theorem dX12_known_37 : decode cX12_known 37 = .ok (.invokevirtual 311, 3) := by decide +kernel
theorem dX12_known_40 : decode cX12_known 40 = .ok (.iconst (-1), 1) := by decide +kernel
theorem dX12_known_41 : decode cX12_known 41 = .ok (.ireturn, 1) := by decide +kernel
def fX12_known_2 : Nat → Int → Int → Int → V_ → Option (Int × V_)
  | 0, _, _, _, _ => none
  | n + 1, x0, x1, x2, v =>
    if (v x0 20) ≤ x2 then (
      bd_ (fX12_wrong x0 4 x1 v) fun q2 =>
      some ((-1), q2.2))
    else (
      ck_ (0 ≤ x2 ∧ x2 < 8) (
      ck_ (0 ≤ x1 ∧ x1 < 403) (
      if (lc_ (v (x0 + 8) x2) (v (x0 + 6) x1)) = 0 then (
        some (x2, v))
      else (
        lt_ (wr_ (x2 + 1)) fun y8 =>
        (fX12_known_2 n) x0 x1 y8 v))))
def fX12_known (x0 x1 : Int) (v : V_) : Option (Int × V_) :=
  fX12_known_2 fu_ x0 x1 0 v
section
variable {E : En_} {p : Program} {l : Launch} {e : Env} {s : State} {m : MethodId} {args : Array Value} {below : List Frame} {meth : Method} {c : Code} {sz : Int}
theorem tX12_known_2 (C : MC_ E p s m c cX12_known 3 RX12) (hr : meth.sig.returnType = (some FieldType.int)) (hlk : meth.locks = false) (hC : Cl_ E.2.2.2.2.2 sz) {out : Int × V_} : ∀ (n : Nat) (x0 x1 x2 : Int) (v : V_), (E.2.2.2.2.2 x0 ∧ ty_ x0 = 12 ∧ ln_ x0 = 0) → fX12_known_2 n x0 x1 x2 v = some out → G_ E p l e (rm_ 1 23) s m args below meth c 3 sz (Q_ E below args s sz sz 0 out.1 out.2) 2 [(0, (2, x0)), (1, (0, x1)), (2, (0, x2))] [] v sz := by
  intro n
  induction n with
  | zero =>
    intro x0 x1 x2 v T0 h
    cases h
  | succ n H_2 =>
    intro x0 x1 x2 v T0 h
    rw [fX12_known_2] at h
    refine g_iload_n C (f := 2) dX12_known_2 2 rfl ?_
    refine g_aload_n C (f := 0) dX12_known_3 0 rfl ?_
    refine g_getf C (k := 20) (kd := 0) okX12 (by decide) kf_RX12_278 dX12_known_4 (rg_ hC T0.1) T0.2.1 rfl ?_
    refine g_icmp_ge C 34 dX12_known_7 rfl (fun c1 => ?_) (fun c1 => ?_)
    · replace h := if_t h c1
      refine g_aload_n C (f := 0) dX12_known_34 0 rfl ?_
      refine g_iconst C (n := 4) dX12_known_35 (by decide) ?_
      refine g_iload_n C (f := 1) dX12_known_36 1 rfl ?_
      obtain ⟨q2, eq2, h⟩ := bd_e h
      refine g_cV C [(0, 4), (0, x1)] (cX12_wrong_ok l hC T0 eq2) okX12 T0.2.1 (rg_ hC T0.1) km_RX12_311 cv_X12_wrong rfl (by decide) rfl rfl (Nat.le_of_ble_eq_true rfl) dX12_known_37 ?_
      refine g_iconst C (n := (-1)) dX12_known_40 (by decide) ?_
      cases h
      exact g_iret C dX12_known_41 hr hlk
    · replace h := if_f h c1
      refine g_aload_n C (f := 0) dX12_known_10 0 rfl ?_
      have F3 := fX12_21 hC T0.1 T0.2.1
      refine g_getR C (k := 21) (o := 8) okX12 (by decide) kf_RX12_40 dX12_known_11 hC T0.1 T0.2.1 rfl rfl ?_
      refine g_iload_n C (f := 2) dX12_known_14 2 rfl ?_
      obtain ⟨c4, h⟩ := ck_e h
      refine g_lald C 8 dX12_known_15 (rg_ hC F3.1) F3.2.1 F3.2.2 c4 ?_
      refine g_aload_n C (f := 0) dX12_known_16 0 rfl ?_
      have F5 := fX12_8 hC T0.1 T0.2.1
      refine g_getR C (k := 8) (o := 6) okX12 (by decide) kf_RX12_30 dX12_known_17 hC T0.1 T0.2.1 rfl rfl ?_
      refine g_iload_n C (f := 1) dX12_known_20 1 rfl ?_
      obtain ⟨c6, h⟩ := ck_e h
      refine g_lald C 403 dX12_known_21 (rg_ hC F5.1) F5.2.1 F5.2.2 c6 ?_
      refine g_lcmp C dX12_known_22 ?_
      refine g_if_ne C 28 dX12_known_23 rfl (fun c7 => ?_) (fun c7 => ?_)
      · replace h := if_f h c7
        obtain ⟨y8, ey8, h⟩ := lt_e h
        refine g_iincx C (ls' := [(2, (0, y8)), (0, (2, x0)), (1, (0, x1))]) ey8 dX12_known_28 2 rfl (by decide) (by decide) rfl ?_
        refine g_goto C 2 dX12_known_31 rfl ?_
        refine g_sub [1, 2, 0] rfl rfl ?_
        exact H_2 _ _ _ _ T0 h
      · replace h := if_t h c7
        refine g_iload_n C (f := 2) dX12_known_26 2 rfl ?_
        cases h
        exact g_iret C dX12_known_27 hr hlk
end
theorem cX12_known_ok (l : Launch) {E : En_} {sz : Int} (hC : Cl_ E.2.2.2.2.2 sz) {x0 x1 : Int} {v : V_} {out : Int × V_} (T0 : (E.2.2.2.2.2 x0 ∧ ty_ x0 = 12 ∧ ln_ x0 = 0)) (h : fX12_known x0 x1 v = some out) : Met l yX12_known [.code yX12_known cX12_known 3 (some FieldType.int)] (rm_ 1 23) (Pc_ E sz v [(2, x0), (0, x1)]) (Qc_ E sz 0 out.1 out.2) 0 0 (fun q => E.1 < q) := by
  refine met_G0 RX12 (by decide +kernel) rfl (Nat.le_of_ble_eq_true rfl) ?_
  intro p e s m args below meth c C hr hlk
  rw [fX12_known] at h
  refine g_iconst C (n := 0) dX12_known_0 (by decide) ?_
  refine g_istore_n C (f := 2) (ls' := [(2, (0, 0)), (0, (2, x0)), (1, (0, x1))]) dX12_known_1 (by decide) rfl ?_
  refine g_sub [1, 2, 0] rfl rfl ?_
  exact tX12_known_2 C hr hlk hC _ _ _ _ _ T0 h
theorem dX12_left_0 : decode cX12_left 0 = .ok (.aload_n 0, 1) := by decide +kernel
theorem dX12_left_1 : decode cX12_left 1 = .ok (.invokevirtual 542, 3) := by decide +kernel
theorem dX12_left_4 : decode cX12_left 4 = .ok (.aload_n 0, 1) := by decide +kernel
theorem dX12_left_5 : decode cX12_left 5 = .ok (.invokevirtual 588, 3) := by decide +kernel
theorem dX12_left_8 : decode cX12_left 8 = .ok (.ifCond .eq 5, 3) := by decide +kernel
theorem dX12_left_11 : decode cX12_left 11 = .ok (.iconst 0, 1) := by decide +kernel
theorem dX12_left_12 : decode cX12_left 12 = .ok (.ireturn, 1) := by decide +kernel
theorem dX12_left_13 : decode cX12_left 13 = .ok (.iload_n 1, 1) := by decide +kernel
theorem dX12_left_14 : decode cX12_left 14 = .ok (.iconst 0, 1) := by decide +kernel
theorem dX12_left_15 : decode cX12_left 15 = .ok (.iconst 5, 1) := by decide +kernel
theorem dX12_left_16 : decode cX12_left 16 = .ok (.invokestatic 334, 3) := by decide +kernel
theorem dX12_left_19 : decode cX12_left 19 = .ok (.ifCond .eq 12, 3) := by decide +kernel
theorem dX12_left_22 : decode cX12_left 22 = .ok (.aload_n 0, 1) := by decide +kernel
theorem dX12_left_23 : decode cX12_left 23 = .ok (.getfield 91, 3) := by decide +kernel
theorem dX12_left_26 : decode cX12_left 26 = .ok (.iload_n 1, 1) := by decide +kernel
theorem dX12_left_27 : decode cX12_left 27 = .ok (.iaload, 1) := by decide +kernel
theorem dX12_left_28 : decode cX12_left 28 = .ok (.goto 27, 3) := by decide +kernel
theorem dX12_left_31 : decode cX12_left 31 = .ok (.iload_n 1, 1) := by decide +kernel
theorem dX12_left_32 : decode cX12_left 32 = .ok (.bipush 8, 2) := by decide +kernel
theorem dX12_left_34 : decode cX12_left 34 = .ok (.bipush 15, 2) := by decide +kernel
theorem dX12_left_36 : decode cX12_left 36 = .ok (.invokestatic 334, 3) := by decide +kernel
theorem dX12_left_39 : decode cX12_left 39 = .ok (.ifCond .eq 15, 3) := by decide +kernel
theorem dX12_left_42 : decode cX12_left 42 = .ok (.aload_n 0, 1) := by decide +kernel
theorem dX12_left_43 : decode cX12_left 43 = .ok (.getfield 94, 3) := by decide +kernel
theorem dX12_left_46 : decode cX12_left 46 = .ok (.iload_n 1, 1) := by decide +kernel
theorem dX12_left_47 : decode cX12_left 47 = .ok (.bipush 8, 2) := by decide +kernel
theorem dX12_left_49 : decode cX12_left 49 = .ok (.isub, 1) := by decide +kernel
theorem dX12_left_50 : decode cX12_left 50 = .ok (.iaload, 1) := by decide +kernel
theorem dX12_left_51 : decode cX12_left 51 = .ok (.goto 4, 3) := by decide +kernel
theorem dX12_left_54 : decode cX12_left 54 = .ok (.iconst 0, 1) := by decide +kernel
theorem dX12_left_55 : decode cX12_left 55 = .ok (.ireturn, 1) := by decide +kernel
def fX12_left (x0 x1 : Int) (v : V_) : Option (Int × V_) :=
  bd_ (fX12_plansAll x0 v) fun q1 =>
  bd_ (fX12_runsFast x0 q1.2) fun q2 =>
  if q2.1 = 0 then (
    bd_ (fX12_in x1 0 5 q2.2) fun q4 =>
    if q4.1 = 0 then (
      bd_ (fX12_in x1 8 15 q4.2) fun q6 =>
      if q6.1 = 0 then (
        some (0, q6.2))
      else (
        ck_ (0 ≤ wr_ (x1 - 8) ∧ wr_ (x1 - 8) < 8) (
        some (q6.2 (x0 + 26) (wr_ (x1 - 8)), q6.2))))
    else (
      ck_ (0 ≤ x1 ∧ x1 < 12) (
      some (q4.2 (x0 + 25) x1, q4.2))))
  else (
    some (0, q2.2))
theorem cX12_left_ok (l : Launch) {E : En_} {sz : Int} (hC : Cl_ E.2.2.2.2.2 sz) {x0 x1 : Int} {v : V_} {out : Int × V_} (T0 : (E.2.2.2.2.2 x0 ∧ ty_ x0 = 12 ∧ ln_ x0 = 0)) (h : fX12_left x0 x1 v = some out) : Met l yX12_left [.code yX12_left cX12_left 2 (some FieldType.int)] (rm_ 6 143) (Pc_ E sz v [(2, x0), (0, x1)]) (Qc_ E sz 0 out.1 out.2) 0 0 (fun q => E.1 < q) := by
  refine met_G0 RX12 (by decide +kernel) rfl (Nat.le_of_ble_eq_true rfl) ?_
  intro p e s m args below meth c C hr hlk
  rw [fX12_left] at h
  refine g_aload_n C (f := 0) dX12_left_0 0 rfl ?_
  obtain ⟨q1, eq1, h⟩ := bd_e h
  refine g_cV C [] (cX12_plansAll_ok l hC T0 eq1) okX12 T0.2.1 (rg_ hC T0.1) km_RX12_542 cv_X12_plansAll rfl (by decide) rfl rfl (Nat.le_of_ble_eq_true rfl) dX12_left_1 ?_
  refine g_aload_n C (f := 0) dX12_left_4 0 rfl ?_
  obtain ⟨q2, eq2, h⟩ := bd_e h
  refine g_cV C [] (cX12_runsFast_ok l hC T0 eq2) okX12 T0.2.1 (rg_ hC T0.1) km_RX12_588 cv_X12_runsFast rfl (by decide) rfl rfl (Nat.le_of_ble_eq_true rfl) dX12_left_5 ?_
  refine g_if_eq C 13 dX12_left_8 rfl (fun c3 => ?_) (fun c3 => ?_)
  · replace h := if_t h c3
    refine g_iload_n C (f := 1) dX12_left_13 1 rfl ?_
    refine g_iconst C (n := 0) dX12_left_14 (by decide) ?_
    refine g_iconst C (n := 5) dX12_left_15 (by decide) ?_
    obtain ⟨q4, eq4, h⟩ := bd_e h
    refine g_cS C [(0, x1), (0, 0), (0, 5)] (cX12_in_ok l hC eq4) km_RX12_334 cs_X12_in rfl (by decide) rfl rfl (Nat.le_of_ble_eq_true rfl) dX12_left_16 ?_
    refine g_if_eq C 31 dX12_left_19 rfl (fun c5 => ?_) (fun c5 => ?_)
    · replace h := if_t h c5
      refine g_iload_n C (f := 1) dX12_left_31 1 rfl ?_
      refine g_bipush C (n := 8) dX12_left_32 (by decide) ?_
      refine g_bipush C (n := 15) dX12_left_34 (by decide) ?_
      obtain ⟨q6, eq6, h⟩ := bd_e h
      refine g_cS C [(0, x1), (0, 8), (0, 15)] (cX12_in_ok l hC eq6) km_RX12_334 cs_X12_in rfl (by decide) rfl rfl (Nat.le_of_ble_eq_true rfl) dX12_left_36 ?_
      refine g_if_eq C 54 dX12_left_39 rfl (fun c7 => ?_) (fun c7 => ?_)
      · replace h := if_t h c7
        refine g_iconst C (n := 0) dX12_left_54 (by decide) ?_
        cases h
        exact g_iret C dX12_left_55 hr hlk
      · replace h := if_f h c7
        refine g_aload_n C (f := 0) dX12_left_42 0 rfl ?_
        have F8 := fX12_39 hC T0.1 T0.2.1
        refine g_getR C (k := 39) (o := 26) okX12 (by decide) kf_RX12_94 dX12_left_43 hC T0.1 T0.2.1 rfl rfl ?_
        refine g_iload_n C (f := 1) dX12_left_46 1 rfl ?_
        refine g_bipush C (n := 8) dX12_left_47 (by decide) ?_
        refine g_isub C dX12_left_49 ?_
        obtain ⟨c9, h⟩ := ck_e h
        refine g_iald C 8 dX12_left_50 (rg_ hC F8.1) F8.2.1 F8.2.2 c9 ?_
        refine g_goto C 55 dX12_left_51 rfl ?_
        cases h
        exact g_iret C dX12_left_55 hr hlk
    · replace h := if_f h c5
      refine g_aload_n C (f := 0) dX12_left_22 0 rfl ?_
      have F10 := fX12_38 hC T0.1 T0.2.1
      refine g_getR C (k := 38) (o := 25) okX12 (by decide) kf_RX12_91 dX12_left_23 hC T0.1 T0.2.1 rfl rfl ?_
      refine g_iload_n C (f := 1) dX12_left_26 1 rfl ?_
      obtain ⟨c11, h⟩ := ck_e h
      refine g_iald C 12 dX12_left_27 (rg_ hC F10.1) F10.2.1 F10.2.2 c11 ?_
      refine g_goto C 55 dX12_left_28 rfl ?_
      cases h
      exact g_iret C dX12_left_55 hr hlk
  · replace h := if_f h c3
    refine g_iconst C (n := 0) dX12_left_11 (by decide) ?_
    cases h
    exact g_iret C dX12_left_12 hr hlk
theorem dX12_letters_0 : decode cX12_letters 0 = .ok (.lconst 0, 1) := by decide +kernel
theorem dX12_letters_1 : decode cX12_letters 1 = .ok (.iload_n 0, 1) := by decide +kernel
theorem dX12_letters_2 : decode cX12_letters 2 = .ok (.invokestatic 219, 3) := by decide +kernel
theorem dX12_letters_5 : decode cX12_letters 5 = .ok (.iload_n 1, 1) := by decide +kernel
theorem dX12_letters_6 : decode cX12_letters 6 = .ok (.invokestatic 219, 3) := by decide +kernel
theorem dX12_letters_9 : decode cX12_letters 9 = .ok (.iload_n 2, 1) := by decide +kernel
theorem dX12_letters_10 : decode cX12_letters 10 = .ok (.invokestatic 219, 3) := by decide +kernel
theorem dX12_letters_13 : decode cX12_letters 13 = .ok (.iload_n 3, 1) := by decide +kernel
theorem dX12_letters_14 : decode cX12_letters 14 = .ok (.invokestatic 219, 3) := by decide +kernel
theorem dX12_letters_17 : decode cX12_letters 17 = .ok (.iload 4, 2) := by decide +kernel
theorem dX12_letters_19 : decode cX12_letters 19 = .ok (.invokestatic 219, 3) := by decide +kernel
theorem dX12_letters_22 : decode cX12_letters 22 = .ok (.iload 5, 2) := by decide +kernel
theorem dX12_letters_24 : decode cX12_letters 24 = .ok (.invokestatic 219, 3) := by decide +kernel
theorem dX12_letters_27 : decode cX12_letters 27 = .ok (.iload 6, 2) := by decide +kernel
theorem dX12_letters_29 : decode cX12_letters 29 = .ok (.invokestatic 219, 3) := by decide +kernel
theorem dX12_letters_32 : decode cX12_letters 32 = .ok (.lreturn, 1) := by decide +kernel
def fX12_letters (x0 x1 x2 x3 x4 x5 x6 : Int) (v : V_) : Option (Int × V_) :=
  bd_ (fX12_appends 0 x0 v) fun q1 =>
  bd_ (fX12_appends q1.1 x1 q1.2) fun q2 =>
  bd_ (fX12_appends q2.1 x2 q2.2) fun q3 =>
  bd_ (fX12_appends q3.1 x3 q3.2) fun q4 =>
  bd_ (fX12_appends q4.1 x4 q4.2) fun q5 =>
  bd_ (fX12_appends q5.1 x5 q5.2) fun q6 =>
  bd_ (fX12_appends q6.1 x6 q6.2) fun q7 =>
  some (q7.1, q7.2)
theorem cX12_letters_ok (l : Launch) {E : En_} {sz : Int} (hC : Cl_ E.2.2.2.2.2 sz) {x0 x1 x2 x3 x4 x5 x6 : Int} {v : V_} {out : Int × V_} (h : fX12_letters x0 x1 x2 x3 x4 x5 x6 v = some out) : Met l yX12_letters [.code yX12_letters cX12_letters 7 (some FieldType.long)] (rm_ 1 22) (Pc_ E sz v [(0, x0), (0, x1), (0, x2), (0, x3), (0, x4), (0, x5), (0, x6)]) (Qc_ E sz 1 out.1 out.2) 0 0 (fun q => E.1 < q) := by
  refine met_G0 RX12 (by decide +kernel) rfl (Nat.le_of_ble_eq_true rfl) ?_
  intro p e s m args below meth c C hr hlk
  rw [fX12_letters] at h
  refine g_lconst C (z := 0) dX12_letters_0 (by decide) ?_
  refine g_iload_n C (f := 0) dX12_letters_1 0 rfl ?_
  obtain ⟨q1, eq1, h⟩ := bd_e h
  refine g_cS C [(1, 0), (0, x0)] (cX12_appends_ok l hC eq1) km_RX12_219 cs_X12_appends rfl (by decide) rfl rfl (Nat.le_of_ble_eq_true rfl) dX12_letters_2 ?_
  refine g_iload_n C (f := 1) dX12_letters_5 1 rfl ?_
  obtain ⟨q2, eq2, h⟩ := bd_e h
  refine g_cS C [(1, q1.1), (0, x1)] (cX12_appends_ok l hC eq2) km_RX12_219 cs_X12_appends rfl (by decide) rfl rfl (Nat.le_of_ble_eq_true rfl) dX12_letters_6 ?_
  refine g_iload_n C (f := 2) dX12_letters_9 2 rfl ?_
  obtain ⟨q3, eq3, h⟩ := bd_e h
  refine g_cS C [(1, q2.1), (0, x2)] (cX12_appends_ok l hC eq3) km_RX12_219 cs_X12_appends rfl (by decide) rfl rfl (Nat.le_of_ble_eq_true rfl) dX12_letters_10 ?_
  refine g_iload_n C (f := 3) dX12_letters_13 3 rfl ?_
  obtain ⟨q4, eq4, h⟩ := bd_e h
  refine g_cS C [(1, q3.1), (0, x3)] (cX12_appends_ok l hC eq4) km_RX12_219 cs_X12_appends rfl (by decide) rfl rfl (Nat.le_of_ble_eq_true rfl) dX12_letters_14 ?_
  refine g_iload C (i := 4) dX12_letters_17 4 rfl ?_
  obtain ⟨q5, eq5, h⟩ := bd_e h
  refine g_cS C [(1, q4.1), (0, x4)] (cX12_appends_ok l hC eq5) km_RX12_219 cs_X12_appends rfl (by decide) rfl rfl (Nat.le_of_ble_eq_true rfl) dX12_letters_19 ?_
  refine g_iload C (i := 5) dX12_letters_22 5 rfl ?_
  obtain ⟨q6, eq6, h⟩ := bd_e h
  refine g_cS C [(1, q5.1), (0, x5)] (cX12_appends_ok l hC eq6) km_RX12_219 cs_X12_appends rfl (by decide) rfl rfl (Nat.le_of_ble_eq_true rfl) dX12_letters_24 ?_
  refine g_iload C (i := 6) dX12_letters_27 6 rfl ?_
  obtain ⟨q7, eq7, h⟩ := bd_e h
  refine g_cS C [(1, q6.1), (0, x6)] (cX12_appends_ok l hC eq7) km_RX12_219 cs_X12_appends rfl (by decide) rfl rfl (Nat.le_of_ble_eq_true rfl) dX12_letters_29 ?_
  cases h
  exact g_lret C dX12_letters_32 hr hlk
