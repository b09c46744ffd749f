theorem dX12_copiedMany_0 : decode cX12_copiedMany 0 = .ok (.iconst 0, 1) := by decide +kernel
theorem dX12_copiedMany_1 : decode cX12_copiedMany 1 = .ok (.istore_n 3, 1) := by decide +kernel
theorem dX12_copiedMany_2 : decode cX12_copiedMany 2 = .ok (.iconst 0, 1) := by decide +kernel
theorem dX12_copiedMany_3 : decode cX12_copiedMany 3 = .ok (.istore 4, 2) := by decide +kernel
theorem dX12_copiedMany_5 : decode cX12_copiedMany 5 = .ok (.iload 4, 2) := by decide +kernel
theorem dX12_copiedMany_7 : decode cX12_copiedMany 7 = .ok (.iload_n 2, 1) := by decide +kernel
theorem dX12_copiedMany_8 : decode cX12_copiedMany 8 = .ok (.if_icmp .ge 23, 3) := by decide +kernel
theorem dX12_copiedMany_11 : decode cX12_copiedMany 11 = .ok (.aload_n 0, 1) := by decide +kernel
theorem dX12_copiedMany_12 : decode cX12_copiedMany 12 = .ok (.iload_n 1, 1) := by decide +kernel
theorem dX12_copiedMany_13 : decode cX12_copiedMany 13 = .ok (.iload_n 2, 1) := by decide +kernel
theorem dX12_copiedMany_14 : decode cX12_copiedMany 14 = .ok (.iload 4, 2) := by decide +kernel
theorem dX12_copiedMany_16 : decode cX12_copiedMany 16 = .ok (.invokevirtual 497, 3) := by decide +kernel
theorem dX12_copiedMany_19 : decode cX12_copiedMany 19 = .ok (.ifCond .eq 6, 3) := by decide +kernel
theorem dX12_copiedMany_22 : decode cX12_copiedMany 22 = .ok (.iinc 3 1, 3) := by decide +kernel
theorem dX12_copiedMany_25 : decode cX12_copiedMany 25 = .ok (.iinc 4 1, 3) := by decide +kernel
theorem dX12_copiedMany_28 : decode cX12_copiedMany 28 = .ok (.goto (-23), 3) := by decide +kernel
theorem dX12_copiedMany_31 : decode cX12_copiedMany 31 = .ok (.iload_n 3, 1) := by decide +kernel
theorem dX12_copiedMany_32 : decode cX12_copiedMany 32 = .ok (.ireturn, 1) := by decide +kernel
def fX12_copiedMany_5 : Nat → Int → Int → Int → Int → Int → V_ → Option (Int × V_)
  | 0, _, _, _, _, _, _ => none
  | n + 1, x0, x1, x2, x3, x4, v =>
    if x2 ≤ x4 then (
      some (x3, v))
    else (
      bd_ (fX12_isCopied x0 x1 x2 x4 v) fun q2 =>
      if q2.1 = 0 then (
        lt_ (wr_ (x4 + 1)) fun y4 =>
        (fX12_copiedMany_5 n) x0 x1 x2 x3 y4 q2.2)
      else (
        lt_ (wr_ (x3 + 1)) fun y5 =>
        lt_ (wr_ (x4 + 1)) fun y6 =>
        (fX12_copiedMany_5 n) x0 x1 x2 y5 y6 q2.2))
def fX12_copiedMany (x0 x1 x2 : Int) (v : V_) : Option (Int × V_) :=
  fX12_copiedMany_5 fu_ x0 x1 x2 0 0 v
section
variable {E : En_} {p : Program} {l : Launch} {e : Env} {s : State} {m : MethodId} {args : Array Value} {below : List Frame} {meth : Method} {c : Code} {sz : Int}
theorem tX12_copiedMany_5 (C : MC_ E p s m c cX12_copiedMany 5 RX12) (hr : meth.sig.returnType = (some FieldType.int)) (hlk : meth.locks = false) (hC : Cl_ E.2.2.2.2.2 sz) {out : Int × V_} : ∀ (n : Nat) (x0 x1 x2 x3 x4 : Int) (v : V_), (E.2.2.2.2.2 x0 ∧ ty_ x0 = 12 ∧ ln_ x0 = 0) → fX12_copiedMany_5 n x0 x1 x2 x3 x4 v = some out → G_ E p l e (rm_ 1 23) s m args below meth c 5 sz (Q_ E below args s sz sz 0 out.1 out.2) 5 [(0, (2, x0)), (1, (0, x1)), (2, (0, x2)), (3, (0, x3)), (4, (0, x4))] [] v sz := by
  intro n
  induction n with
  | zero =>
    intro x0 x1 x2 x3 x4 v T0 h
    cases h
  | succ n H_5 =>
    intro x0 x1 x2 x3 x4 v T0 h
    rw [fX12_copiedMany_5] at h
    refine g_iload C (i := 4) dX12_copiedMany_5 4 rfl ?_
    refine g_iload_n C (f := 2) dX12_copiedMany_7 2 rfl ?_
    refine g_icmp_ge C 31 dX12_copiedMany_8 rfl (fun c1 => ?_) (fun c1 => ?_)
    · replace h := if_t h c1
      refine g_iload_n C (f := 3) dX12_copiedMany_31 3 rfl ?_
      cases h
      exact g_iret C dX12_copiedMany_32 hr hlk
    · replace h := if_f h c1
      refine g_aload_n C (f := 0) dX12_copiedMany_11 0 rfl ?_
      refine g_iload_n C (f := 1) dX12_copiedMany_12 1 rfl ?_
      refine g_iload_n C (f := 2) dX12_copiedMany_13 2 rfl ?_
      refine g_iload C (i := 4) dX12_copiedMany_14 4 rfl ?_
      obtain ⟨q2, eq2, h⟩ := bd_e h
      refine g_cV C [(0, x1), (0, x2), (0, x4)] (cX12_isCopied_ok l hC T0 eq2) okX12 T0.2.1 (rg_ hC T0.1) km_RX12_497 cv_X12_isCopied rfl (by decide) rfl rfl (Nat.le_of_ble_eq_true rfl) dX12_copiedMany_16 ?_
      refine g_if_eq C 25 dX12_copiedMany_19 rfl (fun c3 => ?_) (fun c3 => ?_)
      · replace h := if_t h c3
        obtain ⟨y4, ey4, h⟩ := lt_e h
        refine g_iincx C (ls' := [(4, (0, y4)), (0, (2, x0)), (1, (0, x1)), (2, (0, x2)), (3, (0, x3))]) ey4 dX12_copiedMany_25 4 rfl (by decide) (by decide) rfl ?_
        refine g_goto C 5 dX12_copiedMany_28 rfl ?_
        refine g_sub [1, 2, 3, 4, 0] rfl rfl ?_
        exact H_5 _ _ _ _ _ _ T0 h
      · replace h := if_f h c3
        obtain ⟨y5, ey5, h⟩ := lt_e h
        refine g_iincx C (ls' := [(3, (0, y5)), (0, (2, x0)), (1, (0, x1)), (2, (0, x2)), (4, (0, x4))]) ey5 dX12_copiedMany_22 3 rfl (by decide) (by decide) rfl ?_
        obtain ⟨y6, ey6, h⟩ := lt_e h
        refine g_iincx C (ls' := [(4, (0, y6)), (3, (0, y5)), (0, (2, x0)), (1, (0, x1)), (2, (0, x2))]) ey6 dX12_copiedMany_25 4 rfl (by decide) (by decide) rfl ?_
        refine g_goto C 5 dX12_copiedMany_28 rfl ?_
        refine g_sub [2, 3, 4, 1, 0] rfl rfl ?_
        exact H_5 _ _ _ _ _ _ T0 h
end
theorem cX12_copiedMany_ok (l : Launch) {E : En_} {sz : Int} (hC : Cl_ E.2.2.2.2.2 sz) {x0 x1 x2 : Int} {v : V_} {out : Int × V_} (T0 : (E.2.2.2.2.2 x0 ∧ ty_ x0 = 12 ∧ ln_ x0 = 0)) (h : fX12_copiedMany x0 x1 x2 v = some out) : Met l yX12_copiedMany [.code yX12_copiedMany cX12_copiedMany 5 (some FieldType.int)] (rm_ 1 23) (Pc_ E sz v [(2, x0), (0, x1), (0, x2)]) (Qc_ E sz 0 out.1 out.2) 0 0 (fun q => E.1 < q) := by
  refine met_G0 RX12 (by decide +kernel) rfl (Nat.le_of_ble_eq_true rfl) ?_
  intro p e s m args below meth c C hr hlk
  rw [fX12_copiedMany] at h
  refine g_iconst C (n := 0) dX12_copiedMany_0 (by decide) ?_
  refine g_istore_n C (f := 3) (ls' := [(3, (0, 0)), (0, (2, x0)), (1, (0, x1)), (2, (0, x2))]) dX12_copiedMany_1 (by decide) rfl ?_
  refine g_iconst C (n := 0) dX12_copiedMany_2 (by decide) ?_
  refine g_istore C (i := 4) (ls' := [(4, (0, 0)), (3, (0, 0)), (0, (2, x0)), (1, (0, x1)), (2, (0, x2))]) dX12_copiedMany_3 (by decide) rfl ?_
  refine g_sub [2, 3, 4, 1, 0] rfl rfl ?_
  exact tX12_copiedMany_5 C hr hlk hC _ _ _ _ _ _ _ T0 h
theorem dX12_copiedAll_0 : decode cX12_copiedAll 0 = .ok (.iconst 0, 1) := by decide +kernel
theorem dX12_copiedAll_1 : decode cX12_copiedAll 1 = .ok (.istore_n 2, 1) := by decide +kernel
theorem dX12_copiedAll_2 : decode cX12_copiedAll 2 = .ok (.iconst 0, 1) := by decide +kernel
theorem dX12_copiedAll_3 : decode cX12_copiedAll 3 = .ok (.istore_n 3, 1) := by decide +kernel
theorem dX12_copiedAll_4 : decode cX12_copiedAll 4 = .ok (.iload_n 3, 1) := by decide +kernel
theorem dX12_copiedAll_5 : decode cX12_copiedAll 5 = .ok (.aload_n 0, 1) := by decide +kernel
theorem dX12_copiedAll_6 : decode cX12_copiedAll 6 = .ok (.getfield 118, 3) := by decide +kernel
theorem dX12_copiedAll_9 : decode cX12_copiedAll 9 = .ok (.iload_n 1, 1) := by decide +kernel
theorem dX12_copiedAll_10 : decode cX12_copiedAll 10 = .ok (.iaload, 1) := by decide +kernel
theorem dX12_copiedAll_11 : decode cX12_copiedAll 11 = .ok (.if_icmp .ge 18, 3) := by decide +kernel
theorem dX12_copiedAll_14 : decode cX12_copiedAll 14 = .ok (.iload_n 2, 1) := by decide +kernel
theorem dX12_copiedAll_15 : decode cX12_copiedAll 15 = .ok (.aload_n 0, 1) := by decide +kernel
theorem dX12_copiedAll_16 : decode cX12_copiedAll 16 = .ok (.iload_n 1, 1) := by decide +kernel
theorem dX12_copiedAll_17 : decode cX12_copiedAll 17 = .ok (.iload_n 3, 1) := by decide +kernel
theorem dX12_copiedAll_18 : decode cX12_copiedAll 18 = .ok (.invokevirtual 564, 3) := by decide +kernel
theorem dX12_copiedAll_21 : decode cX12_copiedAll 21 = .ok (.iadd, 1) := by decide +kernel
theorem dX12_copiedAll_22 : decode cX12_copiedAll 22 = .ok (.istore_n 2, 1) := by decide +kernel
theorem dX12_copiedAll_23 : decode cX12_copiedAll 23 = .ok (.iinc 3 1, 3) := by decide +kernel
theorem dX12_copiedAll_26 : decode cX12_copiedAll 26 = .ok (.goto (-22), 3) := by decide +kernel
theorem dX12_copiedAll_29 : decode cX12_copiedAll 29 = .ok (.iload_n 2, 1) := by decide +kernel
theorem dX12_copiedAll_30 : decode cX12_copiedAll 30 = .ok (.ireturn, 1) := by decide +kernel
def fX12_copiedAll_4 : Nat → Int → Int → Int → Int → V_ → Option (Int × V_)
  | 0, _, _, _, _, _ => none
  | n + 1, x0, x1, x2, x3, v =>
    ck_ (0 ≤ x1 ∧ x1 < 8) (
    if (v (x0 + 34) x1) ≤ x3 then (
      some (x2, v))
    else (
      bd_ (fX12_copiedMany x0 x1 x3 v) fun q4 =>
      lt_ (wr_ (x2 + q4.1)) fun y5 =>
      lt_ (wr_ (x3 + 1)) fun y6 =>
      (fX12_copiedAll_4 n) x0 x1 y5 y6 q4.2))
def fX12_copiedAll (x0 x1 : Int) (v : V_) : Option (Int × V_) :=
  fX12_copiedAll_4 fu_ x0 x1 0 0 v
section
variable {E : En_} {p : Program} {l : Launch} {e : Env} {s : State} {m : MethodId} {args : Array Value} {below : List Frame} {meth : Method} {c : Code} {sz : Int}
theorem tX12_copiedAll_4 (C : MC_ E p s m c cX12_copiedAll 4 RX12) (hr : meth.sig.returnType = (some FieldType.int)) (hlk : meth.locks = false) (hC : Cl_ E.2.2.2.2.2 sz) {out : Int × V_} : ∀ (n : Nat) (x0 x1 x2 x3 : Int) (v : V_), (E.2.2.2.2.2 x0 ∧ ty_ x0 = 12 ∧ ln_ x0 = 0) → fX12_copiedAll_4 n x0 x1 x2 x3 v = some out → G_ E p l e (rm_ 2 47) s m args below meth c 4 sz (Q_ E below args s sz sz 0 out.1 out.2) 4 [(0, (2, x0)), (1, (0, x1)), (2, (0, x2)), (3, (0, x3))] [] v sz := by
  intro n
  induction n with
  | zero =>
    intro x0 x1 x2 x3 v T0 h
    cases h
  | succ n H_4 =>
    intro x0 x1 x2 x3 v T0 h
    rw [fX12_copiedAll_4] at h
    refine g_iload_n C (f := 3) dX12_copiedAll_4 3 rfl ?_
    refine g_aload_n C (f := 0) dX12_copiedAll_5 0 rfl ?_
    have F1 := fX12_53 hC T0.1 T0.2.1
    refine g_getR C (k := 53) (o := 34) okX12 (by decide) kf_RX12_118 dX12_copiedAll_6 hC T0.1 T0.2.1 rfl rfl ?_
    refine g_iload_n C (f := 1) dX12_copiedAll_9 1 rfl ?_
    obtain ⟨c2, h⟩ := ck_e h
    refine g_iald C 8 dX12_copiedAll_10 (rg_ hC F1.1) F1.2.1 F1.2.2 c2 ?_
    refine g_icmp_ge C 29 dX12_copiedAll_11 rfl (fun c3 => ?_) (fun c3 => ?_)
    · replace h := if_t h c3
      refine g_iload_n C (f := 2) dX12_copiedAll_29 2 rfl ?_
      cases h
      exact g_iret C dX12_copiedAll_30 hr hlk
    · replace h := if_f h c3
      refine g_iload_n C (f := 2) dX12_copiedAll_14 2 rfl ?_
      refine g_aload_n C (f := 0) dX12_copiedAll_15 0 rfl ?_
      refine g_iload_n C (f := 1) dX12_copiedAll_16 1 rfl ?_
      refine g_iload_n C (f := 3) dX12_copiedAll_17 3 rfl ?_
      obtain ⟨q4, eq4, h⟩ := bd_e h
      refine g_cV C [(0, x1), (0, x3)] (cX12_copiedMany_ok l hC T0 eq4) okX12 T0.2.1 (rg_ hC T0.1) km_RX12_564 cv_X12_copiedMany rfl (by decide) rfl rfl (Nat.le_of_ble_eq_true rfl) dX12_copiedAll_18 ?_
      refine g_iadd C dX12_copiedAll_21 ?_
      obtain ⟨y5, ey5, h⟩ := lt_e h
      refine g_set C ey5 ?_
      refine g_istore_n C (f := 2) (ls' := [(2, (0, y5)), (0, (2, x0)), (1, (0, x1)), (3, (0, x3))]) dX12_copiedAll_22 (by decide) rfl ?_
      obtain ⟨y6, ey6, h⟩ := lt_e h
      refine g_iincx C (ls' := [(3, (0, y6)), (2, (0, y5)), (0, (2, x0)), (1, (0, x1))]) ey6 dX12_copiedAll_23 3 rfl (by decide) (by decide) rfl ?_
      refine g_goto C 4 dX12_copiedAll_26 rfl ?_
      refine g_sub [2, 3, 1, 0] rfl rfl ?_
      exact H_4 _ _ _ _ _ T0 h
end
theorem cX12_copiedAll_ok (l : Launch) {E : En_} {sz : Int} (hC : Cl_ E.2.2.2.2.2 sz) {x0 x1 : Int} {v : V_} {out : Int × V_} (T0 : (E.2.2.2.2.2 x0 ∧ ty_ x0 = 12 ∧ ln_ x0 = 0)) (h : fX12_copiedAll x0 x1 v = some out) : Met l yX12_copiedAll [.code yX12_copiedAll cX12_copiedAll 4 (some FieldType.int)] (rm_ 2 47) (Pc_ E sz v [(2, x0), (0, x1)]) (Qc_ E sz 0 out.1 out.2) 0 0 (fun q => E.1 < q) := by
  refine met_G0 RX12 (by decide +kernel) rfl (Nat.le_of_ble_eq_true rfl) ?_
  intro p e s m args below meth c C hr hlk
  rw [fX12_copiedAll] at h
  refine g_iconst C (n := 0) dX12_copiedAll_0 (by decide) ?_
  refine g_istore_n C (f := 2) (ls' := [(2, (0, 0)), (0, (2, x0)), (1, (0, x1))]) dX12_copiedAll_1 (by decide) rfl ?_
  refine g_iconst C (n := 0) dX12_copiedAll_2 (by decide) ?_
  refine g_istore_n C (f := 3) (ls' := [(3, (0, 0)), (2, (0, 0)), (0, (2, x0)), (1, (0, x1))]) dX12_copiedAll_3 (by decide) rfl ?_
  refine g_sub [2, 3, 1, 0] rfl rfl ?_
  exact tX12_copiedAll_4 C hr hlk hC _ _ _ _ _ _ T0 h
theorem dX12_linesAll_0 : decode cX12_linesAll 0 = .ok (.iconst 0, 1) := by decide +kernel
theorem dX12_linesAll_1 : decode cX12_linesAll 1 = .ok (.istore_n 2, 1) := by decide +kernel
theorem dX12_linesAll_2 : decode cX12_linesAll 2 = .ok (.iconst 0, 1) := by decide +kernel
theorem dX12_linesAll_3 : decode cX12_linesAll 3 = .ok (.istore_n 3, 1) := by decide +kernel
theorem dX12_linesAll_4 : decode cX12_linesAll 4 = .ok (.iload_n 3, 1) := by decide +kernel
theorem dX12_linesAll_5 : decode cX12_linesAll 5 = .ok (.aload_n 0, 1) := by decide +kernel
theorem dX12_linesAll_6 : decode cX12_linesAll 6 = .ok (.getfield 43, 3) := by decide +kernel
theorem dX12_linesAll_9 : decode cX12_linesAll 9 = .ok (.aload_n 0, 1) := by decide +kernel
theorem dX12_linesAll_10 : decode cX12_linesAll 10 = .ok (.getfield 272, 3) := by decide +kernel
theorem dX12_linesAll_13 : decode cX12_linesAll 13 = .ok (.iaload, 1) := by decide +kernel
theorem dX12_linesAll_14 : decode cX12_linesAll 14 = .ok (.if_icmp .ge 26, 3) := by decide +kernel
theorem dX12_linesAll_17 : decode cX12_linesAll 17 = .ok (.iload_n 1, 1) := by decide +kernel
theorem dX12_linesAll_18 : decode cX12_linesAll 18 = .ok (.iload_n 3, 1) := by decide +kernel
theorem dX12_linesAll_19 : decode cX12_linesAll 19 = .ok (.ishr, 1) := by decide +kernel
theorem dX12_linesAll_20 : decode cX12_linesAll 20 = .ok (.iconst 1, 1) := by decide +kernel
theorem dX12_linesAll_21 : decode cX12_linesAll 21 = .ok (.iand, 1) := by decide +kernel
theorem dX12_linesAll_22 : decode cX12_linesAll 22 = .ok (.iconst 1, 1) := by decide +kernel
theorem dX12_linesAll_23 : decode cX12_linesAll 23 = .ok (.if_icmp .ne 11, 3) := by decide +kernel
theorem dX12_linesAll_26 : decode cX12_linesAll 26 = .ok (.iload_n 2, 1) := by decide +kernel
theorem dX12_linesAll_27 : decode cX12_linesAll 27 = .ok (.aload_n 0, 1) := by decide +kernel
theorem dX12_linesAll_28 : decode cX12_linesAll 28 = .ok (.iload_n 3, 1) := by decide +kernel
theorem dX12_linesAll_29 : decode cX12_linesAll 29 = .ok (.invokevirtual 359, 3) := by decide +kernel
theorem dX12_linesAll_32 : decode cX12_linesAll 32 = .ok (.iadd, 1) := by decide +kernel
theorem dX12_linesAll_33 : decode cX12_linesAll 33 = .ok (.istore_n 2, 1) := by decide +kernel
theorem dX12_linesAll_34 : decode cX12_linesAll 34 = .ok (.iinc 3 1, 3) := by decide +kernel
theorem dX12_linesAll_37 : decode cX12_linesAll 37 = .ok (.goto (-33), 3) := by decide +kernel
theorem dX12_linesAll_40 : decode cX12_linesAll 40 = .ok (.iload_n 2, 1) := by decide +kernel
theorem dX12_linesAll_41 : decode cX12_linesAll 41 = .ok (.ireturn, 1) := by decide +kernel
def fX12_linesAll_4 : Nat → Int → Int → Int → Int → V_ → Option (Int × V_)
  | 0, _, _, _, _, _ => none
  | n + 1, x0, x1, x2, x3, v =>
    ck_ (0 ≤ v x0 18 ∧ v x0 18 < 2) (
    if (v (x0 + 9) (v x0 18)) ≤ x3 then (
      some (x2, v))
    else (
      if (bA_ (sR_ x1 x3) 1) = 1 then (
        bd_ (fX12_linesOf x0 x3 v) fun q6 =>
        lt_ (wr_ (x2 + q6.1)) fun y7 =>
        lt_ (wr_ (x3 + 1)) fun y8 =>
        (fX12_linesAll_4 n) x0 x1 y7 y8 q6.2)
      else (
        lt_ (wr_ (x3 + 1)) fun y5 =>
        (fX12_linesAll_4 n) x0 x1 x2 y5 v)))
def fX12_linesAll (x0 x1 : Int) (v : V_) : Option (Int × V_) :=
  fX12_linesAll_4 fu_ x0 x1 0 0 v
section
variable {E : En_} {p : Program} {l : Launch} {e : Env} {s : State} {m : MethodId} {args : Array Value} {below : List Frame} {meth : Method} {c : Code} {sz : Int}
theorem tX12_linesAll_4 (C : MC_ E p s m c cX12_linesAll 4 RX12) (hr : meth.sig.returnType = (some FieldType.int)) (hlk : meth.locks = false) (hC : Cl_ E.2.2.2.2.2 sz) {out : Int × V_} : ∀ (n : Nat) (x0 x1 x2 x3 : Int) (v : V_), (E.2.2.2.2.2 x0 ∧ ty_ x0 = 12 ∧ ln_ x0 = 0) → fX12_linesAll_4 n x0 x1 x2 x3 v = some out → G_ E p l e (rm_ 1 21) s m args below meth c 4 sz (Q_ E below args s sz sz 0 out.1 out.2) 4 [(0, (2, x0)), (1, (0, x1)), (2, (0, x2)), (3, (0, x3))] [] v sz := by
  intro n
  induction n with
  | zero =>
    intro x0 x1 x2 x3 v T0 h
    cases h
  | succ n H_4 =>
    intro x0 x1 x2 x3 v T0 h
    rw [fX12_linesAll_4] at h
    refine g_iload_n C (f := 3) dX12_linesAll_4 3 rfl ?_
    refine g_aload_n C (f := 0) dX12_linesAll_5 0 rfl ?_
    have F1 := fX12_22 hC T0.1 T0.2.1
    refine g_getR C (k := 22) (o := 9) okX12 (by decide) kf_RX12_43 dX12_linesAll_6 hC T0.1 T0.2.1 rfl rfl ?_
    refine g_aload_n C (f := 0) dX12_linesAll_9 0 rfl ?_
    refine g_getf C (k := 18) (kd := 0) okX12 (by decide) kf_RX12_272 dX12_linesAll_10 (rg_ hC T0.1) T0.2.1 rfl ?_
    obtain ⟨c2, h⟩ := ck_e h
    refine g_iald C 2 dX12_linesAll_13 (rg_ hC F1.1) F1.2.1 F1.2.2 c2 ?_
    refine g_icmp_ge C 40 dX12_linesAll_14 rfl (fun c3 => ?_) (fun c3 => ?_)
    · replace h := if_t h c3
      refine g_iload_n C (f := 2) dX12_linesAll_40 2 rfl ?_
      cases h
      exact g_iret C dX12_linesAll_41 hr hlk
    · replace h := if_f h c3
      refine g_iload_n C (f := 1) dX12_linesAll_17 1 rfl ?_
      refine g_iload_n C (f := 3) dX12_linesAll_18 3 rfl ?_
      refine g_ishr C dX12_linesAll_19 ?_
      refine g_iconst C (n := 1) dX12_linesAll_20 (by decide) ?_
      refine g_iand C dX12_linesAll_21 ?_
      refine g_iconst C (n := 1) dX12_linesAll_22 (by decide) ?_
      refine g_icmp_ne C 34 dX12_linesAll_23 rfl (fun c4 => ?_) (fun c4 => ?_)
      · replace h := if_f h c4
        obtain ⟨y5, ey5, h⟩ := lt_e h
        refine g_iincx C (ls' := [(3, (0, y5)), (0, (2, x0)), (1, (0, x1)), (2, (0, x2))]) ey5 dX12_linesAll_34 3 rfl (by decide) (by decide) rfl ?_
        refine g_goto C 4 dX12_linesAll_37 rfl ?_
        refine g_sub [1, 2, 3, 0] rfl rfl ?_
        exact H_4 _ _ _ _ _ T0 h
      · replace h := if_t h c4
        refine g_iload_n C (f := 2) dX12_linesAll_26 2 rfl ?_
        refine g_aload_n C (f := 0) dX12_linesAll_27 0 rfl ?_
        refine g_iload_n C (f := 3) dX12_linesAll_28 3 rfl ?_
        obtain ⟨q6, eq6, h⟩ := bd_e h
        refine g_cV C [(0, x3)] (cX12_linesOf_ok l hC T0 eq6) okX12 T0.2.1 (rg_ hC T0.1) km_RX12_359 cv_X12_linesOf rfl (by decide) rfl rfl (Nat.le_of_ble_eq_true rfl) dX12_linesAll_29 ?_
        refine g_iadd C dX12_linesAll_32 ?_
        obtain ⟨y7, ey7, h⟩ := lt_e h
        refine g_set C ey7 ?_
        refine g_istore_n C (f := 2) (ls' := [(2, (0, y7)), (0, (2, x0)), (1, (0, x1)), (3, (0, x3))]) dX12_linesAll_33 (by decide) rfl ?_
        obtain ⟨y8, ey8, h⟩ := lt_e h
        refine g_iincx C (ls' := [(3, (0, y8)), (2, (0, y7)), (0, (2, x0)), (1, (0, x1))]) ey8 dX12_linesAll_34 3 rfl (by decide) (by decide) rfl ?_
        refine g_goto C 4 dX12_linesAll_37 rfl ?_
        refine g_sub [2, 3, 1, 0] rfl rfl ?_
        exact H_4 _ _ _ _ _ T0 h
end
theorem cX12_linesAll_ok (l : Launch) {E : En_} {sz : Int} (hC : Cl_ E.2.2.2.2.2 sz) {x0 x1 : Int} {v : V_} {out : Int × V_} (T0 : (E.2.2.2.2.2 x0 ∧ ty_ x0 = 12 ∧ ln_ x0 = 0)) (h : fX12_linesAll x0 x1 v = some out) : Met l yX12_linesAll [.code yX12_linesAll cX12_linesAll 4 (some FieldType.int)] (rm_ 1 21) (Pc_ E sz v [(2, x0), (0, x1)]) (Qc_ E sz 0 out.1 out.2) 0 0 (fun q => E.1 < q) := by
  refine met_G0 RX12 (by decide +kernel) rfl (Nat.le_of_ble_eq_true rfl) ?_
  intro p e s m args below meth c C hr hlk
  rw [fX12_linesAll] at h
  refine g_iconst C (n := 0) dX12_linesAll_0 (by decide) ?_
  refine g_istore_n C (f := 2) (ls' := [(2, (0, 0)), (0, (2, x0)), (1, (0, x1))]) dX12_linesAll_1 (by decide) rfl ?_
  refine g_iconst C (n := 0) dX12_linesAll_2 (by decide) ?_
  refine g_istore_n C (f := 3) (ls' := [(3, (0, 0)), (2, (0, 0)), (0, (2, x0)), (1, (0, x1))]) dX12_linesAll_3 (by decide) rfl ?_
  refine g_sub [2, 3, 1, 0] rfl rfl ?_
  exact tX12_linesAll_4 C hr hlk hC _ _ _ _ _ _ T0 h
theorem dX12_pathOf_0 : decode cX12_pathOf 0 = .ok (.iconst 0, 1) := by decide +kernel
theorem dX12_pathOf_1 : decode cX12_pathOf 1 = .ok (.istore_n 2, 1) := by decide +kernel
theorem dX12_pathOf_2 : decode cX12_pathOf 2 = .ok (.iconst 0, 1) := by decide +kernel
theorem dX12_pathOf_3 : decode cX12_pathOf 3 = .ok (.istore_n 3, 1) := by decide +kernel
theorem dX12_pathOf_4 : decode cX12_pathOf 4 = .ok (.iload_n 3, 1) := by decide +kernel
theorem dX12_pathOf_5 : decode cX12_pathOf 5 = .ok (.aload_n 0, 1) := by decide +kernel
theorem dX12_pathOf_6 : decode cX12_pathOf 6 = .ok (.getfield 118, 3) := by decide +kernel
theorem dX12_pathOf_9 : decode cX12_pathOf 9 = .ok (.iload_n 1, 1) := by decide +kernel
theorem dX12_pathOf_10 : decode cX12_pathOf 10 = .ok (.iaload, 1) := by decide +kernel
theorem dX12_pathOf_11 : decode cX12_pathOf 11 = .ok (.if_icmp .ge 25, 3) := by decide +kernel
theorem dX12_pathOf_14 : decode cX12_pathOf 14 = .ok (.iload_n 2, 1) := by decide +kernel
theorem dX12_pathOf_15 : decode cX12_pathOf 15 = .ok (.aload_n 0, 1) := by decide +kernel
theorem dX12_pathOf_16 : decode cX12_pathOf 16 = .ok (.getfield 151, 3) := by decide +kernel
theorem dX12_pathOf_19 : decode cX12_pathOf 19 = .ok (.bipush 34, 2) := by decide +kernel
theorem dX12_pathOf_21 : decode cX12_pathOf 21 = .ok (.iload_n 1, 1) := by decide +kernel
theorem dX12_pathOf_22 : decode cX12_pathOf 22 = .ok (.imul, 1) := by decide +kernel
theorem dX12_pathOf_23 : decode cX12_pathOf 23 = .ok (.iload_n 3, 1) := by decide +kernel
theorem dX12_pathOf_24 : decode cX12_pathOf 24 = .ok (.iadd, 1) := by decide +kernel
theorem dX12_pathOf_25 : decode cX12_pathOf 25 = .ok (.iaload, 1) := by decide +kernel
theorem dX12_pathOf_26 : decode cX12_pathOf 26 = .ok (.invokestatic 458, 3) := by decide +kernel
theorem dX12_pathOf_29 : decode cX12_pathOf 29 = .ok (.istore_n 2, 1) := by decide +kernel
theorem dX12_pathOf_30 : decode cX12_pathOf 30 = .ok (.iinc 3 1, 3) := by decide +kernel
theorem dX12_pathOf_33 : decode cX12_pathOf 33 = .ok (.goto (-29), 3) := by decide +kernel
theorem dX12_pathOf_36 : decode cX12_pathOf 36 = .ok (.iload_n 2, 1) := by decide +kernel
theorem dX12_pathOf_37 : decode cX12_pathOf 37 = .ok (.iconst 1, 1) := by decide +kernel
theorem dX12_pathOf_38 : decode cX12_pathOf 38 = .ok (.iadd, 1) := by decide +kernel
theorem dX12_pathOf_39 : decode cX12_pathOf 39 = .ok (.ireturn, 1) := by decide +kernel
def fX12_pathOf_4 : Nat → Int → Int → Int → Int → V_ → Option (Int × V_)
  | 0, _, _, _, _, _ => none
  | n + 1, x0, x1, x2, x3, v =>
    ck_ (0 ≤ x1 ∧ x1 < 8) (
    if (v (x0 + 34) x1) ≤ x3 then (
      some (wr_ (x2 + 1), v))
    else (
      ck_ (0 ≤ wr_ ((wr_ (34 * x1)) + x3) ∧ wr_ ((wr_ (34 * x1)) + x3) < 272) (
      bd_ (fX12_more x2 (v (x0 + 45) (wr_ ((wr_ (34 * x1)) + x3))) v) fun q6 =>
      lt_ (wr_ (x3 + 1)) fun y7 =>
      (fX12_pathOf_4 n) x0 x1 q6.1 y7 q6.2)))
def fX12_pathOf (x0 x1 : Int) (v : V_) : Option (Int × V_) :=
  fX12_pathOf_4 fu_ x0 x1 0 0 v
section
variable {E : En_} {p : Program} {l : Launch} {e : Env} {s : State} {m : MethodId} {args : Array Value} {below : List Frame} {meth : Method} {c : Code} {sz : Int}
theorem tX12_pathOf_4 (C : MC_ E p s m c cX12_pathOf 4 RX12) (hr : meth.sig.returnType = (some FieldType.int)) (hlk : meth.locks = false) (hC : Cl_ E.2.2.2.2.2 sz) {out : Int × V_} : ∀ (n : Nat) (x0 x1 x2 x3 : Int) (v : V_), (E.2.2.2.2.2 x0 ∧ ty_ x0 = 12 ∧ ln_ x0 = 0) → fX12_pathOf_4 n x0 x1 x2 x3 v = some out → G_ E p l e (rm_ 1 21) s m args below meth c 4 sz (Q_ E below args s sz sz 0 out.1 out.2) 4 [(0, (2, x0)), (1, (0, x1)), (2, (0, x2)), (3, (0, x3))] [] v sz := by
  intro n
  induction n with
  | zero =>
    intro x0 x1 x2 x3 v T0 h
    cases h
  | succ n H_4 =>
    intro x0 x1 x2 x3 v T0 h
    rw [fX12_pathOf_4] at h
    refine g_iload_n C (f := 3) dX12_pathOf_4 3 rfl ?_
    refine g_aload_n C (f := 0) dX12_pathOf_5 0 rfl ?_
    have F1 := fX12_53 hC T0.1 T0.2.1
    refine g_getR C (k := 53) (o := 34) okX12 (by decide) kf_RX12_118 dX12_pathOf_6 hC T0.1 T0.2.1 rfl rfl ?_
    refine g_iload_n C (f := 1) dX12_pathOf_9 1 rfl ?_
    obtain ⟨c2, h⟩ := ck_e h
    refine g_iald C 8 dX12_pathOf_10 (rg_ hC F1.1) F1.2.1 F1.2.2 c2 ?_
    refine g_icmp_ge C 36 dX12_pathOf_11 rfl (fun c3 => ?_) (fun c3 => ?_)
    · replace h := if_t h c3
      refine g_iload_n C (f := 2) dX12_pathOf_36 2 rfl ?_
      refine g_iconst C (n := 1) dX12_pathOf_37 (by decide) ?_
      refine g_iadd C dX12_pathOf_38 ?_
      cases h
      exact g_iret C dX12_pathOf_39 hr hlk
    · replace h := if_f h c3
      refine g_iload_n C (f := 2) dX12_pathOf_14 2 rfl ?_
      refine g_aload_n C (f := 0) dX12_pathOf_15 0 rfl ?_
      have F4 := fX12_64 hC T0.1 T0.2.1
      refine g_getR C (k := 64) (o := 45) okX12 (by decide) kf_RX12_151 dX12_pathOf_16 hC T0.1 T0.2.1 rfl rfl ?_
      refine g_bipush C (n := 34) dX12_pathOf_19 (by decide) ?_
      refine g_iload_n C (f := 1) dX12_pathOf_21 1 rfl ?_
      refine g_imul C dX12_pathOf_22 ?_
      refine g_iload_n C (f := 3) dX12_pathOf_23 3 rfl ?_
      refine g_iadd C dX12_pathOf_24 ?_
      obtain ⟨c5, h⟩ := ck_e h
      refine g_iald C 272 dX12_pathOf_25 (rg_ hC F4.1) F4.2.1 F4.2.2 c5 ?_
      obtain ⟨q6, eq6, h⟩ := bd_e h
      refine g_cS C [(0, x2), (0, v (x0 + 45) (wr_ ((wr_ (34 * x1)) + x3)))] (cX12_more_ok l hC eq6) km_RX12_458 cs_X12_more rfl (by decide) rfl rfl (Nat.le_of_ble_eq_true rfl) dX12_pathOf_26 ?_
      refine g_istore_n C (f := 2) (ls' := [(2, (0, q6.1)), (0, (2, x0)), (1, (0, x1)), (3, (0, x3))]) dX12_pathOf_29 (by decide) rfl ?_
      obtain ⟨y7, ey7, h⟩ := lt_e h
      refine g_iincx C (ls' := [(3, (0, y7)), (2, (0, q6.1)), (0, (2, x0)), (1, (0, x1))]) ey7 dX12_pathOf_30 3 rfl (by decide) (by decide) rfl ?_
      refine g_goto C 4 dX12_pathOf_33 rfl ?_
      refine g_sub [2, 3, 1, 0] rfl rfl ?_
      exact H_4 _ _ _ _ _ T0 h
end
theorem cX12_pathOf_ok (l : Launch) {E : En_} {sz : Int} (hC : Cl_ E.2.2.2.2.2 sz) {x0 x1 : Int} {v : V_} {out : Int × V_} (T0 : (E.2.2.2.2.2 x0 ∧ ty_ x0 = 12 ∧ ln_ x0 = 0)) (h : fX12_pathOf x0 x1 v = some out) : Met l yX12_pathOf [.code yX12_pathOf cX12_pathOf 4 (some FieldType.int)] (rm_ 1 21) (Pc_ E sz v [(2, x0), (0, x1)]) (Qc_ E sz 0 out.1 out.2) 0 0 (fun q => E.1 < q) := by
  refine met_G0 RX12 (by decide +kernel) rfl (Nat.le_of_ble_eq_true rfl) ?_
  intro p e s m args below meth c C hr hlk
  rw [fX12_pathOf] at h
  refine g_iconst C (n := 0) dX12_pathOf_0 (by decide) ?_
  refine g_istore_n C (f := 2) (ls' := [(2, (0, 0)), (0, (2, x0)), (1, (0, x1))]) dX12_pathOf_1 (by decide) rfl ?_
  refine g_iconst C (n := 0) dX12_pathOf_2 (by decide) ?_
  refine g_istore_n C (f := 3) (ls' := [(3, (0, 0)), (2, (0, 0)), (0, (2, x0)), (1, (0, x1))]) dX12_pathOf_3 (by decide) rfl ?_
  refine g_sub [2, 3, 1, 0] rfl rfl ?_
  exact tX12_pathOf_4 C hr hlk hC _ _ _ _ _ _ T0 h
theorem dX12_floorOf_0 : decode cX12_floorOf 0 = .ok (.aload_n 0, 1) := by decide +kernel
theorem dX12_floorOf_1 : decode cX12_floorOf 1 = .ok (.iload_n 1, 1) := by decide +kernel
theorem dX12_floorOf_2 : decode cX12_floorOf 2 = .ok (.invokevirtual 494, 3) := by decide +kernel
theorem dX12_floorOf_5 : decode cX12_floorOf 5 = .ok (.istore_n 2, 1) := by decide +kernel
theorem dX12_floorOf_6 : decode cX12_floorOf 6 = .ok (.iconst 0, 1) := by decide +kernel
theorem dX12_floorOf_7 : decode cX12_floorOf 7 = .ok (.istore_n 3, 1) := by decide +kernel
theorem dX12_floorOf_8 : decode cX12_floorOf 8 = .ok (.iload_n 3, 1) := by decide +kernel
theorem dX12_floorOf_9 : decode cX12_floorOf 9 = .ok (.iconst 4, 1) := by decide +kernel
theorem dX12_floorOf_10 : decode cX12_floorOf 10 = .ok (.if_icmp .ge 80, 3) := by decide +kernel
theorem dX12_floorOf_13 : decode cX12_floorOf 13 = .ok (.iconst 0, 1) := by decide +kernel
theorem dX12_floorOf_14 : decode cX12_floorOf 14 = .ok (.istore 4, 2) := by decide +kernel
theorem dX12_floorOf_16 : decode cX12_floorOf 16 = .ok (.iconst 0, 1) := by decide +kernel
theorem dX12_floorOf_17 : decode cX12_floorOf 17 = .ok (.istore 5, 2) := by decide +kernel
theorem dX12_floorOf_19 : decode cX12_floorOf 19 = .ok (.iload 5, 2) := by decide +kernel
theorem dX12_floorOf_21 : decode cX12_floorOf 21 = .ok (.aload_n 0, 1) := by decide +kernel
theorem dX12_floorOf_22 : decode cX12_floorOf 22 = .ok (.getfield 118, 3) := by decide +kernel
theorem dX12_floorOf_25 : decode cX12_floorOf 25 = .ok (.iload_n 1, 1) := by decide +kernel
theorem dX12_floorOf_26 : decode cX12_floorOf 26 = .ok (.iaload, 1) := by decide +kernel
theorem dX12_floorOf_27 : decode cX12_floorOf 27 = .ok (.if_icmp .ge 28, 3) := by decide +kernel
theorem dX12_floorOf_30 : decode cX12_floorOf 30 = .ok (.aload_n 0, 1) := by decide +kernel
theorem dX12_floorOf_31 : decode cX12_floorOf 31 = .ok (.getfield 127, 3) := by decide +kernel
theorem dX12_floorOf_34 : decode cX12_floorOf 34 = .ok (.bipush 34, 2) := by decide +kernel
theorem dX12_floorOf_36 : decode cX12_floorOf 36 = .ok (.iload_n 1, 1) := by decide +kernel
theorem dX12_floorOf_37 : decode cX12_floorOf 37 = .ok (.imul, 1) := by decide +kernel
theorem dX12_floorOf_38 : decode cX12_floorOf 38 = .ok (.iload 5, 2) := by decide +kernel
theorem dX12_floorOf_40 : decode cX12_floorOf 40 = .ok (.iadd, 1) := by decide +kernel
theorem dX12_floorOf_41 : decode cX12_floorOf 41 = .ok (.iaload, 1) := by decide +kernel
theorem dX12_floorOf_42 : decode cX12_floorOf 42 = .ok (.iload_n 3, 1) := by decide +kernel
theorem dX12_floorOf_43 : decode cX12_floorOf 43 = .ok (.if_icmp .ne 6, 3) := by decide +kernel
theorem dX12_floorOf_46 : decode cX12_floorOf 46 = .ok (.iinc 4 1, 3) := by decide +kernel
theorem dX12_floorOf_49 : decode cX12_floorOf 49 = .ok (.iinc 5 1, 3) := by decide +kernel
theorem dX12_floorOf_52 : decode cX12_floorOf 52 = .ok (.goto (-33), 3) := by decide +kernel
theorem dX12_floorOf_55 : decode cX12_floorOf 55 = .ok (.iload_n 2, 1) := by decide +kernel
theorem dX12_floorOf_56 : decode cX12_floorOf 56 = .ok (.iload 4, 2) := by decide +kernel
theorem dX12_floorOf_58 : decode cX12_floorOf 58 = .ok (.aload_n 0, 1) := by decide +kernel
theorem dX12_floorOf_59 : decode cX12_floorOf 59 = .ok (.getfield 88, 3) := by decide +kernel
theorem dX12_floorOf_62 : decode cX12_floorOf 62 = .ok (.bipush 39, 2) := by decide +kernel
theorem dX12_floorOf_64 : decode cX12_floorOf 64 = .ok (.iload_n 3, 1) := by decide +kernel
theorem dX12_floorOf_65 : decode cX12_floorOf 65 = .ok (.iadd, 1) := by decide +kernel
theorem dX12_floorOf_66 : decode cX12_floorOf 66 = .ok (.iaload, 1) := by decide +kernel
theorem dX12_floorOf_67 : decode cX12_floorOf 67 = .ok (.iadd, 1) := by decide +kernel
theorem dX12_floorOf_68 : decode cX12_floorOf 68 = .ok (.iconst 1, 1) := by decide +kernel
theorem dX12_floorOf_69 : decode cX12_floorOf 69 = .ok (.isub, 1) := by decide +kernel
theorem dX12_floorOf_70 : decode cX12_floorOf 70 = .ok (.aload_n 0, 1) := by decide +kernel
theorem dX12_floorOf_71 : decode cX12_floorOf 71 = .ok (.getfield 88, 3) := by decide +kernel
theorem dX12_floorOf_74 : decode cX12_floorOf 74 = .ok (.bipush 39, 2) := by decide +kernel
theorem dX12_floorOf_76 : decode cX12_floorOf 76 = .ok (.iload_n 3, 1) := by decide +kernel
theorem dX12_floorOf_77 : decode cX12_floorOf 77 = .ok (.iadd, 1) := by decide +kernel
theorem dX12_floorOf_78 : decode cX12_floorOf 78 = .ok (.iaload, 1) := by decide +kernel
theorem dX12_floorOf_79 : decode cX12_floorOf 79 = .ok (.idiv, 1) := by decide +kernel
theorem dX12_floorOf_80 : decode cX12_floorOf 80 = .ok (.invokestatic 458, 3) := by decide +kernel
theorem dX12_floorOf_83 : decode cX12_floorOf 83 = .ok (.istore_n 2, 1) := by decide +kernel
theorem dX12_floorOf_84 : decode cX12_floorOf 84 = .ok (.iinc 3 1, 3) := by decide +kernel
theorem dX12_floorOf_87 : decode cX12_floorOf 87 = .ok (.goto (-79), 3) := by decide +kernel
theorem dX12_floorOf_90 : decode cX12_floorOf 90 = .ok (.iload_n 2, 1) := by decide +kernel
theorem dX12_floorOf_91 : decode cX12_floorOf 91 = .ok (.ireturn, 1) := by decide +kernel
def fX12_floorOf_19 (k8 : Int → Int → Int → Int → V_ → Option (Int × V_)) : Nat → Int → Int → Int → Int → Int → Int → V_ → Option (Int × V_)
  | 0, _, _, _, _, _, _, _ => none
  | n + 1, x0, x1, x2, x3, x4, x5, v =>
    ck_ (0 ≤ x1 ∧ x1 < 8) (
    if (v (x0 + 34) x1) ≤ x5 then (
      ck_ (0 ≤ wr_ (39 + x3) ∧ wr_ (39 + x3) < 47) (
      ck_ (0 ≤ wr_ (39 + x3) ∧ wr_ (39 + x3) < 47) (
      ck_ (v (x0 + 24) (wr_ (39 + x3)) ≠ 0) (
      bd_ (fX12_more x2 (wr_ (Int.tdiv (wr_ ((wr_ (x4 + (v (x0 + 24) (wr_ (39 + x3))))) - 1)) (v (x0 + 24) (wr_ (39 + x3))))) v) fun q11 =>
      lt_ (wr_ (x3 + 1)) fun y12 =>
      k8 x0 x1 q11.1 y12 q11.2))))
    else (
      ck_ (0 ≤ wr_ ((wr_ (34 * x1)) + x5) ∧ wr_ ((wr_ (34 * x1)) + x5) < 272) (
      if (v (x0 + 37) (wr_ ((wr_ (34 * x1)) + x5))) = x3 then (
        lt_ (wr_ (x4 + 1)) fun y17 =>
        lt_ (wr_ (x5 + 1)) fun y18 =>
        (fX12_floorOf_19 k8 n) x0 x1 x2 x3 y17 y18 v)
      else (
        lt_ (wr_ (x5 + 1)) fun y16 =>
        (fX12_floorOf_19 k8 n) x0 x1 x2 x3 x4 y16 v))))
def fX12_floorOf_8 : Nat → Int → Int → Int → Int → V_ → Option (Int × V_)
  | 0, _, _, _, _, _ => none
  | n + 1, x0, x1, x2, x3, v =>
    if 4 ≤ x3 then (
      some (x2, v))
    else (
      fX12_floorOf_19 (fX12_floorOf_8 n) fu_ x0 x1 x2 x3 0 0 v)
def fX12_floorOf (x0 x1 : Int) (v : V_) : Option (Int × V_) :=
  bd_ (fX12_pathOf x0 x1 v) fun q1 =>
  fX12_floorOf_8 fu_ x0 x1 q1.1 0 q1.2
section
variable {E : En_} {p : Program} {l : Launch} {e : Env} {s : State} {m : MethodId} {args : Array Value} {below : List Frame} {meth : Method} {c : Code} {sz : Int}
theorem tX12_floorOf_19 (C : MC_ E p s m c cX12_floorOf 6 RX12) (hr : meth.sig.returnType = (some FieldType.int)) (hlk : meth.locks = false) (hC : Cl_ E.2.2.2.2.2 sz) {out : Int × V_} (k8 : Int → Int → Int → Int → V_ → Option (Int × V_)) (H_8 : ∀ (x0 x1 x2 x3 : Int) (v : V_), (E.2.2.2.2.2 x0 ∧ ty_ x0 = 12 ∧ ln_ x0 = 0) → k8 x0 x1 x2 x3 v = some out → G_ E p l e (rm_ 2 44) s m args below meth c 6 sz (Q_ E below args s sz sz 0 out.1 out.2) 8 [(0, (2, x0)), (1, (0, x1)), (2, (0, x2)), (3, (0, x3))] [] v sz) : ∀ (n : Nat) (x0 x1 x2 x3 x4 x5 : Int) (v : V_), (E.2.2.2.2.2 x0 ∧ ty_ x0 = 12 ∧ ln_ x0 = 0) → fX12_floorOf_19 k8 n x0 x1 x2 x3 x4 x5 v = some out → G_ E p l e (rm_ 2 44) s m args below meth c 6 sz (Q_ E below args s sz sz 0 out.1 out.2) 19 [(0, (2, x0)), (1, (0, x1)), (2, (0, x2)), (3, (0, x3)), (4, (0, x4)), (5, (0, x5))] [] v sz := by
  intro n
  induction n with
  | zero =>
    intro x0 x1 x2 x3 x4 x5 v T0 h
    cases h
  | succ n H_19 =>
    intro x0 x1 x2 x3 x4 x5 v T0 h
    rw [fX12_floorOf_19] at h
    refine g_iload C (i := 5) dX12_floorOf_19 5 rfl ?_
    refine g_aload_n C (f := 0) dX12_floorOf_21 0 rfl ?_
    have F3 := fX12_53 hC T0.1 T0.2.1
    refine g_getR C (k := 53) (o := 34) okX12 (by decide) kf_RX12_118 dX12_floorOf_22 hC T0.1 T0.2.1 rfl rfl ?_
    refine g_iload_n C (f := 1) dX12_floorOf_25 1 rfl ?_
    obtain ⟨c4, h⟩ := ck_e h
    refine g_iald C 8 dX12_floorOf_26 (rg_ hC F3.1) F3.2.1 F3.2.2 c4 ?_
    refine g_icmp_ge C 55 dX12_floorOf_27 rfl (fun c5 => ?_) (fun c5 => ?_)
    · replace h := if_t h c5
      refine g_iload_n C (f := 2) dX12_floorOf_55 2 rfl ?_
      refine g_iload C (i := 4) dX12_floorOf_56 4 rfl ?_
      refine g_aload_n C (f := 0) dX12_floorOf_58 0 rfl ?_
      have F6 := fX12_37 hC T0.1 T0.2.1
      refine g_getR C (k := 37) (o := 24) okX12 (by decide) kf_RX12_88 dX12_floorOf_59 hC T0.1 T0.2.1 rfl rfl ?_
      refine g_bipush C (n := 39) dX12_floorOf_62 (by decide) ?_
      refine g_iload_n C (f := 3) dX12_floorOf_64 3 rfl ?_
      refine g_iadd C dX12_floorOf_65 ?_
      obtain ⟨c7, h⟩ := ck_e h
      refine g_iald C 47 dX12_floorOf_66 (rg_ hC F6.1) F6.2.1 F6.2.2 c7 ?_
      refine g_iadd C dX12_floorOf_67 ?_
      refine g_iconst C (n := 1) dX12_floorOf_68 (by decide) ?_
      refine g_isub C dX12_floorOf_69 ?_
      refine g_aload_n C (f := 0) dX12_floorOf_70 0 rfl ?_
      have F8 := fX12_37 hC T0.1 T0.2.1
      refine g_getR C (k := 37) (o := 24) okX12 (by decide) kf_RX12_88 dX12_floorOf_71 hC T0.1 T0.2.1 rfl rfl ?_
      refine g_bipush C (n := 39) dX12_floorOf_74 (by decide) ?_
      refine g_iload_n C (f := 3) dX12_floorOf_76 3 rfl ?_
      refine g_iadd C dX12_floorOf_77 ?_
      obtain ⟨c9, h⟩ := ck_e h
      refine g_iald C 47 dX12_floorOf_78 (rg_ hC F8.1) F8.2.1 F8.2.2 c9 ?_
      obtain ⟨c10, h⟩ := ck_e h
      refine g_idiv C dX12_floorOf_79 c10 ?_
      obtain ⟨q11, eq11, h⟩ := bd_e h
      refine g_cS C [(0, x2), (0, wr_ (Int.tdiv (wr_ ((wr_ (x4 + (v (x0 + 24) (wr_ (39 + x3))))) - 1)) (v (x0 + 24) (wr_ (39 + x3)))))] (cX12_more_ok l hC eq11) km_RX12_458 cs_X12_more rfl (by decide) rfl rfl (Nat.le_of_ble_eq_true rfl) dX12_floorOf_80 ?_
      refine g_istore_n C (f := 2) (ls' := [(2, (0, q11.1)), (0, (2, x0)), (1, (0, x1)), (3, (0, x3)), (4, (0, x4)), (5, (0, x5))]) dX12_floorOf_83 (by decide) rfl ?_
      obtain ⟨y12, ey12, h⟩ := lt_e h
      refine g_iincx C (ls' := [(3, (0, y12)), (2, (0, q11.1)), (0, (2, x0)), (1, (0, x1)), (4, (0, x4)), (5, (0, x5))]) ey12 dX12_floorOf_84 3 rfl (by decide) (by decide) rfl ?_
      refine g_goto C 8 dX12_floorOf_87 rfl ?_
      refine g_sub [2, 3, 1, 0] rfl rfl ?_
      exact H_8 _ _ _ _ _ T0 h
    · replace h := if_f h c5
      refine g_aload_n C (f := 0) dX12_floorOf_30 0 rfl ?_
      have F13 := fX12_56 hC T0.1 T0.2.1
      refine g_getR C (k := 56) (o := 37) okX12 (by decide) kf_RX12_127 dX12_floorOf_31 hC T0.1 T0.2.1 rfl rfl ?_
      refine g_bipush C (n := 34) dX12_floorOf_34 (by decide) ?_
      refine g_iload_n C (f := 1) dX12_floorOf_36 1 rfl ?_
      refine g_imul C dX12_floorOf_37 ?_
      refine g_iload C (i := 5) dX12_floorOf_38 5 rfl ?_
      refine g_iadd C dX12_floorOf_40 ?_
      obtain ⟨c14, h⟩ := ck_e h
      refine g_iald C 272 dX12_floorOf_41 (rg_ hC F13.1) F13.2.1 F13.2.2 c14 ?_
      refine g_iload_n C (f := 3) dX12_floorOf_42 3 rfl ?_
      refine g_icmp_ne C 49 dX12_floorOf_43 rfl (fun c15 => ?_) (fun c15 => ?_)
      · replace h := if_f h c15
        obtain ⟨y16, ey16, h⟩ := lt_e h
        refine g_iincx C (ls' := [(5, (0, y16)), (0, (2, x0)), (1, (0, x1)), (2, (0, x2)), (3, (0, x3)), (4, (0, x4))]) ey16 dX12_floorOf_49 5 rfl (by decide) (by decide) rfl ?_
        refine g_goto C 19 dX12_floorOf_52 rfl ?_
        refine g_sub [1, 2, 3, 4, 5, 0] rfl rfl ?_
        exact H_19 _ _ _ _ _ _ _ T0 h
      · replace h := if_t h c15
        obtain ⟨y17, ey17, h⟩ := lt_e h
        refine g_iincx C (ls' := [(4, (0, y17)), (0, (2, x0)), (1, (0, x1)), (2, (0, x2)), (3, (0, x3)), (5, (0, x5))]) ey17 dX12_floorOf_46 4 rfl (by decide) (by decide) rfl ?_
        obtain ⟨y18, ey18, h⟩ := lt_e h
        refine g_iincx C (ls' := [(5, (0, y18)), (4, (0, y17)), (0, (2, x0)), (1, (0, x1)), (2, (0, x2)), (3, (0, x3))]) ey18 dX12_floorOf_49 5 rfl (by decide) (by decide) rfl ?_
        refine g_goto C 19 dX12_floorOf_52 rfl ?_
        refine g_sub [2, 3, 4, 5, 1, 0] rfl rfl ?_
        exact H_19 _ _ _ _ _ _ _ T0 h
theorem tX12_floorOf_8 (C : MC_ E p s m c cX12_floorOf 6 RX12) (hr : meth.sig.returnType = (some FieldType.int)) (hlk : meth.locks = false) (hC : Cl_ E.2.2.2.2.2 sz) {out : Int × V_} : ∀ (n : Nat) (x0 x1 x2 x3 : Int) (v : V_), (E.2.2.2.2.2 x0 ∧ ty_ x0 = 12 ∧ ln_ x0 = 0) → fX12_floorOf_8 n x0 x1 x2 x3 v = some out → G_ E p l e (rm_ 2 44) s m args below meth c 6 sz (Q_ E below args s sz sz 0 out.1 out.2) 8 [(0, (2, x0)), (1, (0, x1)), (2, (0, x2)), (3, (0, x3))] [] v sz := by
  intro n
  induction n with
  | zero =>
    intro x0 x1 x2 x3 v T0 h
    cases h
  | succ n H_8 =>
    intro x0 x1 x2 x3 v T0 h
    rw [fX12_floorOf_8] at h
    refine g_iload_n C (f := 3) dX12_floorOf_8 3 rfl ?_
    refine g_iconst C (n := 4) dX12_floorOf_9 (by decide) ?_
    refine g_icmp_ge C 90 dX12_floorOf_10 rfl (fun c2 => ?_) (fun c2 => ?_)
    · replace h := if_t h c2
      refine g_iload_n C (f := 2) dX12_floorOf_90 2 rfl ?_
      cases h
      exact g_iret C dX12_floorOf_91 hr hlk
    · replace h := if_f h c2
      refine g_iconst C (n := 0) dX12_floorOf_13 (by decide) ?_
      refine g_istore C (i := 4) (ls' := [(4, (0, 0)), (0, (2, x0)), (1, (0, x1)), (2, (0, x2)), (3, (0, x3))]) dX12_floorOf_14 (by decide) rfl ?_
      refine g_iconst C (n := 0) dX12_floorOf_16 (by decide) ?_
      refine g_istore C (i := 5) (ls' := [(5, (0, 0)), (4, (0, 0)), (0, (2, x0)), (1, (0, x1)), (2, (0, x2)), (3, (0, x3))]) dX12_floorOf_17 (by decide) rfl ?_
      refine g_sub [2, 3, 4, 5, 1, 0] rfl rfl ?_
      exact tX12_floorOf_19 C hr hlk hC _ H_8 _ _ _ _ _ _ _ _ T0 h
end
theorem cX12_floorOf_ok (l : Launch) {E : En_} {sz : Int} (hC : Cl_ E.2.2.2.2.2 sz) {x0 x1 : Int} {v : V_} {out : Int × V_} (T0 : (E.2.2.2.2.2 x0 ∧ ty_ x0 = 12 ∧ ln_ x0 = 0)) (h : fX12_floorOf x0 x1 v = some out) : Met l yX12_floorOf [.code yX12_floorOf cX12_floorOf 6 (some FieldType.int)] (rm_ 2 44) (Pc_ E sz v [(2, x0), (0, x1)]) (Qc_ E sz 0 out.1 out.2) 0 0 (fun q => E.1 < q) := by
  refine met_G0 RX12 (by decide +kernel) rfl (Nat.le_of_ble_eq_true rfl) ?_
  intro p e s m args below meth c C hr hlk
  rw [fX12_floorOf] at h
  refine g_aload_n C (f := 0) dX12_floorOf_0 0 rfl ?_
  refine g_iload_n C (f := 1) dX12_floorOf_1 1 rfl ?_
  obtain ⟨q1, eq1, h⟩ := bd_e h
  refine g_cV C [(0, x1)] (cX12_pathOf_ok l hC T0 eq1) okX12 T0.2.1 (rg_ hC T0.1) km_RX12_494 cv_X12_pathOf rfl (by decide) rfl rfl (Nat.le_of_ble_eq_true rfl) dX12_floorOf_2 ?_
  refine g_istore_n C (f := 2) (ls' := [(2, (0, q1.1)), (0, (2, x0)), (1, (0, x1))]) dX12_floorOf_5 (by decide) rfl ?_
  refine g_iconst C (n := 0) dX12_floorOf_6 (by decide) ?_
  refine g_istore_n C (f := 3) (ls' := [(3, (0, 0)), (2, (0, q1.1)), (0, (2, x0)), (1, (0, x1))]) dX12_floorOf_7 (by decide) rfl ?_
  refine g_sub [2, 3, 1, 0] rfl rfl ?_
  exact tX12_floorOf_8 C hr hlk hC _ _ _ _ _ _ T0 h
theorem dX12_guessesOf_0 : decode cX12_guessesOf 0 = .ok (.iconst 0, 1) := by decide +kernel
theorem dX12_guessesOf_1 : decode cX12_guessesOf 1 = .ok (.istore_n 2, 1) := by decide +kernel
theorem dX12_guessesOf_2 : decode cX12_guessesOf 2 = .ok (.iconst 0, 1) := by decide +kernel
theorem dX12_guessesOf_3 : decode cX12_guessesOf 3 = .ok (.istore_n 3, 1) := by decide +kernel
theorem dX12_guessesOf_4 : decode cX12_guessesOf 4 = .ok (.iload_n 3, 1) := by decide +kernel
theorem dX12_guessesOf_5 : decode cX12_guessesOf 5 = .ok (.aload_n 0, 1) := by decide +kernel
theorem dX12_guessesOf_6 : decode cX12_guessesOf 6 = .ok (.getfield 118, 3) := by decide +kernel
theorem dX12_guessesOf_9 : decode cX12_guessesOf 9 = .ok (.iload_n 1, 1) := by decide +kernel
theorem dX12_guessesOf_10 : decode cX12_guessesOf 10 = .ok (.iaload, 1) := by decide +kernel
theorem dX12_guessesOf_11 : decode cX12_guessesOf 11 = .ok (.if_icmp .ge 21, 3) := by decide +kernel
theorem dX12_guessesOf_14 : decode cX12_guessesOf 14 = .ok (.aload_n 0, 1) := by decide +kernel
theorem dX12_guessesOf_15 : decode cX12_guessesOf 15 = .ok (.iload_n 1, 1) := by decide +kernel
theorem dX12_guessesOf_16 : decode cX12_guessesOf 16 = .ok (.iload_n 3, 1) := by decide +kernel
theorem dX12_guessesOf_17 : decode cX12_guessesOf 17 = .ok (.invokevirtual 509, 3) := by decide +kernel
theorem dX12_guessesOf_20 : decode cX12_guessesOf 20 = .ok (.ifCond .eq 6, 3) := by decide +kernel
theorem dX12_guessesOf_23 : decode cX12_guessesOf 23 = .ok (.iinc 2 1, 3) := by decide +kernel
theorem dX12_guessesOf_26 : decode cX12_guessesOf 26 = .ok (.iinc 3 1, 3) := by decide +kernel
theorem dX12_guessesOf_29 : decode cX12_guessesOf 29 = .ok (.goto (-25), 3) := by decide +kernel
theorem dX12_guessesOf_32 : decode cX12_guessesOf 32 = .ok (.iload_n 2, 1) := by decide +kernel
theorem dX12_guessesOf_33 : decode cX12_guessesOf 33 = .ok (.ireturn, 1) := by decide +kernel
def fX12_guessesOf_4 : Nat → Int → Int → Int → Int → V_ → Option (Int × V_)
  | 0, _, _, _, _, _ => none
  | n + 1, x0, x1, x2, x3, v =>
    ck_ (0 ≤ x1 ∧ x1 < 8) (
    if (v (x0 + 34) x1) ≤ x3 then (
      some (x2, v))
    else (
      bd_ (fX12_isGuess x0 x1 x3 v) fun q4 =>
      if q4.1 = 0 then (
        lt_ (wr_ (x3 + 1)) fun y6 =>
        (fX12_guessesOf_4 n) x0 x1 x2 y6 q4.2)
      else (
        lt_ (wr_ (x2 + 1)) fun y7 =>
        lt_ (wr_ (x3 + 1)) fun y8 =>
        (fX12_guessesOf_4 n) x0 x1 y7 y8 q4.2)))
def fX12_guessesOf (x0 x1 : Int) (v : V_) : Option (Int × V_) :=
  fX12_guessesOf_4 fu_ x0 x1 0 0 v
section
variable {E : En_} {p : Program} {l : Launch} {e : Env} {s : State} {m : MethodId} {args : Array Value} {below : List Frame} {meth : Method} {c : Code} {sz : Int}
theorem tX12_guessesOf_4 (C : MC_ E p s m c cX12_guessesOf 4 RX12) (hr : meth.sig.returnType = (some FieldType.int)) (hlk : meth.locks = false) (hC : Cl_ E.2.2.2.2.2 sz) {out : Int × V_} : ∀ (n : Nat) (x0 x1 x2 x3 : Int) (v : V_), (E.2.2.2.2.2 x0 ∧ ty_ x0 = 12 ∧ ln_ x0 = 0) → fX12_guessesOf_4 n x0 x1 x2 x3 v = some out → G_ E p l e (rm_ 1 23) s m args below meth c 4 sz (Q_ E below args s sz sz 0 out.1 out.2) 4 [(0, (2, x0)), (1, (0, x1)), (2, (0, x2)), (3, (0, x3))] [] v sz := by
  intro n
  induction n with
  | zero =>
    intro x0 x1 x2 x3 v T0 h
    cases h
  | succ n H_4 =>
    intro x0 x1 x2 x3 v T0 h
    rw [fX12_guessesOf_4] at h
    refine g_iload_n C (f := 3) dX12_guessesOf_4 3 rfl ?_
    refine g_aload_n C (f := 0) dX12_guessesOf_5 0 rfl ?_
    have F1 := fX12_53 hC T0.1 T0.2.1
    refine g_getR C (k := 53) (o := 34) okX12 (by decide) kf_RX12_118 dX12_guessesOf_6 hC T0.1 T0.2.1 rfl rfl ?_
    refine g_iload_n C (f := 1) dX12_guessesOf_9 1 rfl ?_
    obtain ⟨c2, h⟩ := ck_e h
    refine g_iald C 8 dX12_guessesOf_10 (rg_ hC F1.1) F1.2.1 F1.2.2 c2 ?_
    refine g_icmp_ge C 32 dX12_guessesOf_11 rfl (fun c3 => ?_) (fun c3 => ?_)
    · replace h := if_t h c3
      refine g_iload_n C (f := 2) dX12_guessesOf_32 2 rfl ?_
      cases h
      exact g_iret C dX12_guessesOf_33 hr hlk
    · replace h := if_f h c3
      refine g_aload_n C (f := 0) dX12_guessesOf_14 0 rfl ?_
      refine g_iload_n C (f := 1) dX12_guessesOf_15 1 rfl ?_
      refine g_iload_n C (f := 3) dX12_guessesOf_16 3 rfl ?_
      obtain ⟨q4, eq4, h⟩ := bd_e h
      refine g_cV C [(0, x1), (0, x3)] (cX12_isGuess_ok l hC T0 eq4) okX12 T0.2.1 (rg_ hC T0.1) km_RX12_509 cv_X12_isGuess rfl (by decide) rfl rfl (Nat.le_of_ble_eq_true rfl) dX12_guessesOf_17 ?_
      refine g_if_eq C 26 dX12_guessesOf_20 rfl (fun c5 => ?_) (fun c5 => ?_)
      · replace h := if_t h c5
        obtain ⟨y6, ey6, h⟩ := lt_e h
        refine g_iincx C (ls' := [(3, (0, y6)), (0, (2, x0)), (1, (0, x1)), (2, (0, x2))]) ey6 dX12_guessesOf_26 3 rfl (by decide) (by decide) rfl ?_
        refine g_goto C 4 dX12_guessesOf_29 rfl ?_
        refine g_sub [1, 2, 3, 0] rfl rfl ?_
        exact H_4 _ _ _ _ _ T0 h
      · replace h := if_f h c5
        obtain ⟨y7, ey7, h⟩ := lt_e h
        refine g_iincx C (ls' := [(2, (0, y7)), (0, (2, x0)), (1, (0, x1)), (3, (0, x3))]) ey7 dX12_guessesOf_23 2 rfl (by decide) (by decide) rfl ?_
        obtain ⟨y8, ey8, h⟩ := lt_e h
        refine g_iincx C (ls' := [(3, (0, y8)), (2, (0, y7)), (0, (2, x0)), (1, (0, x1))]) ey8 dX12_guessesOf_26 3 rfl (by decide) (by decide) rfl ?_
        refine g_goto C 4 dX12_guessesOf_29 rfl ?_
        refine g_sub [2, 3, 1, 0] rfl rfl ?_
        exact H_4 _ _ _ _ _ T0 h
end
theorem cX12_guessesOf_ok (l : Launch) {E : En_} {sz : Int} (hC : Cl_ E.2.2.2.2.2 sz) {x0 x1 : Int} {v : V_} {out : Int × V_} (T0 : (E.2.2.2.2.2 x0 ∧ ty_ x0 = 12 ∧ ln_ x0 = 0)) (h : fX12_guessesOf x0 x1 v = some out) : Met l yX12_guessesOf [.code yX12_guessesOf cX12_guessesOf 4 (some FieldType.int)] (rm_ 1 23) (Pc_ E sz v [(2, x0), (0, x1)]) (Qc_ E sz 0 out.1 out.2) 0 0 (fun q => E.1 < q) := by
  refine met_G0 RX12 (by decide +kernel) rfl (Nat.le_of_ble_eq_true rfl) ?_
  intro p e s m args below meth c C hr hlk
  rw [fX12_guessesOf] at h
  refine g_iconst C (n := 0) dX12_guessesOf_0 (by decide) ?_
  refine g_istore_n C (f := 2) (ls' := [(2, (0, 0)), (0, (2, x0)), (1, (0, x1))]) dX12_guessesOf_1 (by decide) rfl ?_
  refine g_iconst C (n := 0) dX12_guessesOf_2 (by decide) ?_
  refine g_istore_n C (f := 3) (ls' := [(3, (0, 0)), (2, (0, 0)), (0, (2, x0)), (1, (0, x1))]) dX12_guessesOf_3 (by decide) rfl ?_
  refine g_sub [2, 3, 1, 0] rfl rfl ?_
  exact tX12_guessesOf_4 C hr hlk hC _ _ _ _ _ _ T0 h
theorem dX12_plainOf_0 : decode cX12_plainOf 0 = .ok (.iconst 0, 1) := by decide +kernel
theorem dX12_plainOf_1 : decode cX12_plainOf 1 = .ok (.istore_n 2, 1) := by decide +kernel
theorem dX12_plainOf_2 : decode cX12_plainOf 2 = .ok (.iconst 0, 1) := by decide +kernel
theorem dX12_plainOf_3 : decode cX12_plainOf 3 = .ok (.istore_n 3, 1) := by decide +kernel
theorem dX12_plainOf_4 : decode cX12_plainOf 4 = .ok (.iload_n 3, 1) := by decide +kernel
theorem dX12_plainOf_5 : decode cX12_plainOf 5 = .ok (.aload_n 0, 1) := by decide +kernel
theorem dX12_plainOf_6 : decode cX12_plainOf 6 = .ok (.getfield 118, 3) := by decide +kernel
theorem dX12_plainOf_9 : decode cX12_plainOf 9 = .ok (.iload_n 1, 1) := by decide +kernel
theorem dX12_plainOf_10 : decode cX12_plainOf 10 = .ok (.iaload, 1) := by decide +kernel
theorem dX12_plainOf_11 : decode cX12_plainOf 11 = .ok (.if_icmp .ge 37, 3) := by decide +kernel
theorem dX12_plainOf_14 : decode cX12_plainOf 14 = .ok (.aload_n 0, 1) := by decide +kernel
theorem dX12_plainOf_15 : decode cX12_plainOf 15 = .ok (.getfield 121, 3) := by decide +kernel
theorem dX12_plainOf_18 : decode cX12_plainOf 18 = .ok (.bipush 34, 2) := by decide +kernel
theorem dX12_plainOf_20 : decode cX12_plainOf 20 = .ok (.iload_n 1, 1) := by decide +kernel
theorem dX12_plainOf_21 : decode cX12_plainOf 21 = .ok (.imul, 1) := by decide +kernel
theorem dX12_plainOf_22 : decode cX12_plainOf 22 = .ok (.iload_n 3, 1) := by decide +kernel
theorem dX12_plainOf_23 : decode cX12_plainOf 23 = .ok (.iadd, 1) := by decide +kernel
theorem dX12_plainOf_24 : decode cX12_plainOf 24 = .ok (.iaload, 1) := by decide +kernel
theorem dX12_plainOf_25 : decode cX12_plainOf 25 = .ok (.iconst 1, 1) := by decide +kernel
theorem dX12_plainOf_26 : decode cX12_plainOf 26 = .ok (.if_icmp .eq 16, 3) := by decide +kernel
theorem dX12_plainOf_29 : decode cX12_plainOf 29 = .ok (.iload_n 2, 1) := by decide +kernel
theorem dX12_plainOf_30 : decode cX12_plainOf 30 = .ok (.aload_n 0, 1) := by decide +kernel
theorem dX12_plainOf_31 : decode cX12_plainOf 31 = .ok (.bipush 34, 2) := by decide +kernel
theorem dX12_plainOf_33 : decode cX12_plainOf 33 = .ok (.iload_n 1, 1) := by decide +kernel
theorem dX12_plainOf_34 : decode cX12_plainOf 34 = .ok (.imul, 1) := by decide +kernel
theorem dX12_plainOf_35 : decode cX12_plainOf 35 = .ok (.iload_n 3, 1) := by decide +kernel
theorem dX12_plainOf_36 : decode cX12_plainOf 36 = .ok (.iadd, 1) := by decide +kernel
theorem dX12_plainOf_37 : decode cX12_plainOf 37 = .ok (.invokevirtual 455, 3) := by decide +kernel
theorem dX12_plainOf_40 : decode cX12_plainOf 40 = .ok (.iadd, 1) := by decide +kernel
theorem dX12_plainOf_41 : decode cX12_plainOf 41 = .ok (.istore_n 2, 1) := by decide +kernel
theorem dX12_plainOf_42 : decode cX12_plainOf 42 = .ok (.iinc 3 1, 3) := by decide +kernel
theorem dX12_plainOf_45 : decode cX12_plainOf 45 = .ok (.goto (-41), 3) := by decide +kernel
theorem dX12_plainOf_48 : decode cX12_plainOf 48 = .ok (.iload_n 2, 1) := by decide +kernel
theorem dX12_plainOf_49 : decode cX12_plainOf 49 = .ok (.ireturn, 1) := by decide +kernel
def fX12_plainOf_4 : Nat → Int → Int → Int → Int → V_ → Option (Int × V_)
  | 0, _, _, _, _, _ => none
  | n + 1, x0, x1, x2, x3, v =>
    ck_ (0 ≤ x1 ∧ x1 < 8) (
    if (v (x0 + 34) x1) ≤ x3 then (
      some (x2, v))
    else (
      ck_ (0 ≤ wr_ ((wr_ (34 * x1)) + x3) ∧ wr_ ((wr_ (34 * x1)) + x3) < 272) (
      if (v (x0 + 35) (wr_ ((wr_ (34 * x1)) + x3))) = 1 then (
        lt_ (wr_ (x3 + 1)) fun y7 =>
        (fX12_plainOf_4 n) x0 x1 x2 y7 v)
      else (
        bd_ (fX12_takesItem x0 (wr_ ((wr_ (34 * x1)) + x3)) v) fun q8 =>
        lt_ (wr_ (x2 + q8.1)) fun y9 =>
        lt_ (wr_ (x3 + 1)) fun y10 =>
        (fX12_plainOf_4 n) x0 x1 y9 y10 q8.2))))
def fX12_plainOf (x0 x1 : Int) (v : V_) : Option (Int × V_) :=
  fX12_plainOf_4 fu_ x0 x1 0 0 v
section
variable {E : En_} {p : Program} {l : Launch} {e : Env} {s : State} {m : MethodId} {args : Array Value} {below : List Frame} {meth : Method} {c : Code} {sz : Int}
theorem tX12_plainOf_4 (C : MC_ E p s m c cX12_plainOf 4 RX12) (hr : meth.sig.returnType = (some FieldType.int)) (hlk : meth.locks = false) (hC : Cl_ E.2.2.2.2.2 sz) {out : Int × V_} : ∀ (n : Nat) (x0 x1 x2 x3 : Int) (v : V_), (E.2.2.2.2.2 x0 ∧ ty_ x0 = 12 ∧ ln_ x0 = 0) → fX12_plainOf_4 n x0 x1 x2 x3 v = some out → G_ E p l e (rm_ 2 42) s m args below meth c 4 sz (Q_ E below args s sz sz 0 out.1 out.2) 4 [(0, (2, x0)), (1, (0, x1)), (2, (0, x2)), (3, (0, x3))] [] v sz := by
  intro n
  induction n with
  | zero =>
    intro x0 x1 x2 x3 v T0 h
    cases h
  | succ n H_4 =>
    intro x0 x1 x2 x3 v T0 h
    rw [fX12_plainOf_4] at h
    refine g_iload_n C (f := 3) dX12_plainOf_4 3 rfl ?_
    refine g_aload_n C (f := 0) dX12_plainOf_5 0 rfl ?_
    have F1 := fX12_53 hC T0.1 T0.2.1
    refine g_getR C (k := 53) (o := 34) okX12 (by decide) kf_RX12_118 dX12_plainOf_6 hC T0.1 T0.2.1 rfl rfl ?_
    refine g_iload_n C (f := 1) dX12_plainOf_9 1 rfl ?_
    obtain ⟨c2, h⟩ := ck_e h
    refine g_iald C 8 dX12_plainOf_10 (rg_ hC F1.1) F1.2.1 F1.2.2 c2 ?_
    refine g_icmp_ge C 48 dX12_plainOf_11 rfl (fun c3 => ?_) (fun c3 => ?_)
    · replace h := if_t h c3
      refine g_iload_n C (f := 2) dX12_plainOf_48 2 rfl ?_
      cases h
      exact g_iret C dX12_plainOf_49 hr hlk
    · replace h := if_f h c3
      refine g_aload_n C (f := 0) dX12_plainOf_14 0 rfl ?_
      have F4 := fX12_54 hC T0.1 T0.2.1
      refine g_getR C (k := 54) (o := 35) okX12 (by decide) kf_RX12_121 dX12_plainOf_15 hC T0.1 T0.2.1 rfl rfl ?_
      refine g_bipush C (n := 34) dX12_plainOf_18 (by decide) ?_
      refine g_iload_n C (f := 1) dX12_plainOf_20 1 rfl ?_
      refine g_imul C dX12_plainOf_21 ?_
      refine g_iload_n C (f := 3) dX12_plainOf_22 3 rfl ?_
      refine g_iadd C dX12_plainOf_23 ?_
      obtain ⟨c5, h⟩ := ck_e h
      refine g_iald C 272 dX12_plainOf_24 (rg_ hC F4.1) F4.2.1 F4.2.2 c5 ?_
      refine g_iconst C (n := 1) dX12_plainOf_25 (by decide) ?_
      refine g_icmp_eq C 42 dX12_plainOf_26 rfl (fun c6 => ?_) (fun c6 => ?_)
      · replace h := if_t h c6
        obtain ⟨y7, ey7, h⟩ := lt_e h
        refine g_iincx C (ls' := [(3, (0, y7)), (0, (2, x0)), (1, (0, x1)), (2, (0, x2))]) ey7 dX12_plainOf_42 3 rfl (by decide) (by decide) rfl ?_
        refine g_goto C 4 dX12_plainOf_45 rfl ?_
        refine g_sub [1, 2, 3, 0] rfl rfl ?_
        exact H_4 _ _ _ _ _ T0 h
      · replace h := if_f h c6
        refine g_iload_n C (f := 2) dX12_plainOf_29 2 rfl ?_
        refine g_aload_n C (f := 0) dX12_plainOf_30 0 rfl ?_
        refine g_bipush C (n := 34) dX12_plainOf_31 (by decide) ?_
        refine g_iload_n C (f := 1) dX12_plainOf_33 1 rfl ?_
        refine g_imul C dX12_plainOf_34 ?_
        refine g_iload_n C (f := 3) dX12_plainOf_35 3 rfl ?_
        refine g_iadd C dX12_plainOf_36 ?_
        obtain ⟨q8, eq8, h⟩ := bd_e h
        refine g_cV C [(0, wr_ ((wr_ (34 * x1)) + x3))] (cX12_takesItem_ok l hC T0 eq8) okX12 T0.2.1 (rg_ hC T0.1) km_RX12_455 cv_X12_takesItem rfl (by decide) rfl rfl (Nat.le_of_ble_eq_true rfl) dX12_plainOf_37 ?_
        refine g_iadd C dX12_plainOf_40 ?_
        obtain ⟨y9, ey9, h⟩ := lt_e h
        refine g_set C ey9 ?_
        refine g_istore_n C (f := 2) (ls' := [(2, (0, y9)), (0, (2, x0)), (1, (0, x1)), (3, (0, x3))]) dX12_plainOf_41 (by decide) rfl ?_
        obtain ⟨y10, ey10, h⟩ := lt_e h
        refine g_iincx C (ls' := [(3, (0, y10)), (2, (0, y9)), (0, (2, x0)), (1, (0, x1))]) ey10 dX12_plainOf_42 3 rfl (by decide) (by decide) rfl ?_
        refine g_goto C 4 dX12_plainOf_45 rfl ?_
        refine g_sub [2, 3, 1, 0] rfl rfl ?_
        exact H_4 _ _ _ _ _ T0 h
end
theorem cX12_plainOf_ok (l : Launch) {E : En_} {sz : Int} (hC : Cl_ E.2.2.2.2.2 sz) {x0 x1 : Int} {v : V_} {out : Int × V_} (T0 : (E.2.2.2.2.2 x0 ∧ ty_ x0 = 12 ∧ ln_ x0 = 0)) (h : fX12_plainOf x0 x1 v = some out) : Met l yX12_plainOf [.code yX12_plainOf cX12_plainOf 4 (some FieldType.int)] (rm_ 2 42) (Pc_ E sz v [(2, x0), (0, x1)]) (Qc_ E sz 0 out.1 out.2) 0 0 (fun q => E.1 < q) := by
  refine met_G0 RX12 (by decide +kernel) rfl (Nat.le_of_ble_eq_true rfl) ?_
  intro p e s m args below meth c C hr hlk
  rw [fX12_plainOf] at h
  refine g_iconst C (n := 0) dX12_plainOf_0 (by decide) ?_
  refine g_istore_n C (f := 2) (ls' := [(2, (0, 0)), (0, (2, x0)), (1, (0, x1))]) dX12_plainOf_1 (by decide) rfl ?_
  refine g_iconst C (n := 0) dX12_plainOf_2 (by decide) ?_
  refine g_istore_n C (f := 3) (ls' := [(3, (0, 0)), (2, (0, 0)), (0, (2, x0)), (1, (0, x1))]) dX12_plainOf_3 (by decide) rfl ?_
  refine g_sub [2, 3, 1, 0] rfl rfl ?_
  exact tX12_plainOf_4 C hr hlk hC _ _ _ _ _ _ T0 h
theorem dX12_sumOf_0 : decode cX12_sumOf 0 = .ok (.iconst 0, 1) := by decide +kernel
theorem dX12_sumOf_1 : decode cX12_sumOf 1 = .ok (.istore_n 2, 1) := by decide +kernel
theorem dX12_sumOf_2 : decode cX12_sumOf 2 = .ok (.iconst 0, 1) := by decide +kernel
theorem dX12_sumOf_3 : decode cX12_sumOf 3 = .ok (.istore_n 3, 1) := by decide +kernel
theorem dX12_sumOf_4 : decode cX12_sumOf 4 = .ok (.iload_n 3, 1) := by decide +kernel
theorem dX12_sumOf_5 : decode cX12_sumOf 5 = .ok (.aload_n 0, 1) := by decide +kernel
theorem dX12_sumOf_6 : decode cX12_sumOf 6 = .ok (.getfield 402, 3) := by decide +kernel
theorem dX12_sumOf_9 : decode cX12_sumOf 9 = .ok (.if_icmp .ge 69, 3) := by decide +kernel
theorem dX12_sumOf_12 : decode cX12_sumOf 12 = .ok (.iload_n 2, 1) := by decide +kernel
theorem dX12_sumOf_13 : decode cX12_sumOf 13 = .ok (.iload_n 1, 1) := by decide +kernel
theorem dX12_sumOf_14 : decode cX12_sumOf 14 = .ok (.ifCond .ne 11, 3) := by decide +kernel
theorem dX12_sumOf_17 : decode cX12_sumOf 17 = .ok (.aload_n 0, 1) := by decide +kernel
theorem dX12_sumOf_18 : decode cX12_sumOf 18 = .ok (.iload_n 3, 1) := by decide +kernel
theorem dX12_sumOf_19 : decode cX12_sumOf 19 = .ok (.invokevirtual 521, 3) := by decide +kernel
theorem dX12_sumOf_22 : decode cX12_sumOf 22 = .ok (.goto 48, 3) := by decide +kernel
theorem dX12_sumOf_25 : decode cX12_sumOf 25 = .ok (.iload_n 1, 1) := by decide +kernel
theorem dX12_sumOf_26 : decode cX12_sumOf 26 = .ok (.iconst 1, 1) := by decide +kernel
theorem dX12_sumOf_27 : decode cX12_sumOf 27 = .ok (.if_icmp .ne 11, 3) := by decide +kernel
theorem dX12_sumOf_30 : decode cX12_sumOf 30 = .ok (.aload_n 0, 1) := by decide +kernel
theorem dX12_sumOf_31 : decode cX12_sumOf 31 = .ok (.iload_n 3, 1) := by decide +kernel
theorem dX12_sumOf_32 : decode cX12_sumOf 32 = .ok (.invokevirtual 570, 3) := by decide +kernel
theorem dX12_sumOf_35 : decode cX12_sumOf 35 = .ok (.goto 35, 3) := by decide +kernel
theorem dX12_sumOf_38 : decode cX12_sumOf 38 = .ok (.iload_n 1, 1) := by decide +kernel
theorem dX12_sumOf_39 : decode cX12_sumOf 39 = .ok (.iconst 2, 1) := by decide +kernel
theorem dX12_sumOf_40 : decode cX12_sumOf 40 = .ok (.if_icmp .ne 11, 3) := by decide +kernel
theorem dX12_sumOf_43 : decode cX12_sumOf 43 = .ok (.aload_n 0, 1) := by decide +kernel
theorem dX12_sumOf_44 : decode cX12_sumOf 44 = .ok (.iload_n 3, 1) := by decide +kernel
theorem dX12_sumOf_45 : decode cX12_sumOf 45 = .ok (.invokevirtual 576, 3) := by decide +kernel
theorem dX12_sumOf_48 : decode cX12_sumOf 48 = .ok (.goto 22, 3) := by decide +kernel
theorem dX12_sumOf_51 : decode cX12_sumOf 51 = .ok (.iload_n 1, 1) := by decide +kernel
theorem dX12_sumOf_52 : decode cX12_sumOf 52 = .ok (.iconst 3, 1) := by decide +kernel
theorem dX12_sumOf_53 : decode cX12_sumOf 53 = .ok (.if_icmp .ne 11, 3) := by decide +kernel
theorem dX12_sumOf_56 : decode cX12_sumOf 56 = .ok (.aload_n 0, 1) := by decide +kernel
theorem dX12_sumOf_57 : decode cX12_sumOf 57 = .ok (.iload_n 3, 1) := by decide +kernel
theorem dX12_sumOf_58 : decode cX12_sumOf 58 = .ok (.invokevirtual 579, 3) := by decide +kernel
theorem dX12_sumOf_61 : decode cX12_sumOf 61 = .ok (.goto 9, 3) := by decide +kernel
theorem dX12_sumOf_64 : decode cX12_sumOf 64 = .ok (.aload_n 0, 1) := by decide +kernel
theorem dX12_sumOf_65 : decode cX12_sumOf 65 = .ok (.getfield 154, 3) := by decide +kernel
theorem dX12_sumOf_68 : decode cX12_sumOf 68 = .ok (.iload_n 3, 1) := by decide +kernel
theorem dX12_sumOf_69 : decode cX12_sumOf 69 = .ok (.iaload, 1) := by decide +kernel
theorem dX12_sumOf_70 : decode cX12_sumOf 70 = .ok (.iadd, 1) := by decide +kernel
theorem dX12_sumOf_71 : decode cX12_sumOf 71 = .ok (.istore_n 2, 1) := by decide +kernel
theorem dX12_sumOf_72 : decode cX12_sumOf 72 = .ok (.iinc 3 1, 3) := by decide +kernel
theorem dX12_sumOf_75 : decode cX12_sumOf 75 = .ok (.goto (-71), 3) := by decide +kernel
theorem dX12_sumOf_78 : decode cX12_sumOf 78 = .ok (.iload_n 2, 1) := by decide +kernel
theorem dX12_sumOf_79 : decode cX12_sumOf 79 = .ok (.ireturn, 1) := by decide +kernel
def fX12_sumOf_70 (k4 : Int → Int → Int → Int → V_ → Option (Int × V_)) (x0 x1 x3 s0 s1 : Int) (v : V_) : Option (Int × V_) :=
  lt_ (wr_ (s0 + s1)) fun y8 =>
  lt_ (wr_ (x3 + 1)) fun y9 =>
  k4 x0 x1 y8 y9 v
def fX12_sumOf_4 : Nat → Int → Int → Int → Int → V_ → Option (Int × V_)
  | 0, _, _, _, _, _ => none
  | n + 1, x0, x1, x2, x3, v =>
    if (v x0 52) ≤ x3 then (
      some (x2, v))
    else (
      if x1 = 0 then (
        bd_ (fX12_lengthOf x0 x3 v) fun q13 =>
        fX12_sumOf_70 (fX12_sumOf_4 n) x0 x1 x3 x2 q13.1 q13.2)
      else (
        if x1 = 1 then (
          bd_ (fX12_floorOf x0 x3 v) fun q12 =>
          fX12_sumOf_70 (fX12_sumOf_4 n) x0 x1 x3 x2 q12.1 q12.2)
        else (
          if x1 = 2 then (
            bd_ (fX12_plainOf x0 x3 v) fun q11 =>
            fX12_sumOf_70 (fX12_sumOf_4 n) x0 x1 x3 x2 q11.1 q11.2)
          else (
            if x1 = 3 then (
              bd_ (fX12_guessesOf x0 x3 v) fun q10 =>
              fX12_sumOf_70 (fX12_sumOf_4 n) x0 x1 x3 x2 q10.1 q10.2)
            else (
              ck_ (0 ≤ x3 ∧ x3 < 8) (
              fX12_sumOf_70 (fX12_sumOf_4 n) x0 x1 x3 x2 (v (x0 + 46) x3) v))))))
def fX12_sumOf (x0 x1 : Int) (v : V_) : Option (Int × V_) :=
  fX12_sumOf_4 fu_ x0 x1 0 0 v
section
variable {E : En_} {p : Program} {l : Launch} {e : Env} {s : State} {m : MethodId} {args : Array Value} {below : List Frame} {meth : Method} {c : Code} {sz : Int}
theorem tX12_sumOf_70 (C : MC_ E p s m c cX12_sumOf 4 RX12) (hr : meth.sig.returnType = (some FieldType.int)) (hlk : meth.locks = false) (hC : Cl_ E.2.2.2.2.2 sz) {out : Int × V_} (k4 : Int → Int → Int → Int → V_ → Option (Int × V_)) (H_4 : ∀ (x0 x1 x2 x3 : Int) (v : V_), (E.2.2.2.2.2 x0 ∧ ty_ x0 = 12 ∧ ln_ x0 = 0) → k4 x0 x1 x2 x3 v = some out → G_ E p l e (rm_ 3 69) s m args below meth c 4 sz (Q_ E below args s sz sz 0 out.1 out.2) 4 [(0, (2, x0)), (1, (0, x1)), (2, (0, x2)), (3, (0, x3))] [] v sz) (x0 x1 x3 s0 s1 : Int) (v : V_) (T0 : (E.2.2.2.2.2 x0 ∧ ty_ x0 = 12 ∧ ln_ x0 = 0)) (h : fX12_sumOf_70 k4 x0 x1 x3 s0 s1 v = some out) : G_ E p l e (rm_ 3 69) s m args below meth c 4 sz (Q_ E below args s sz sz 0 out.1 out.2) 70 [(0, (2, x0)), (1, (0, x1)), (3, (0, x3))] [(0, s1), (0, s0)] v sz := by
  rw [fX12_sumOf_70] at h
  refine g_iadd C dX12_sumOf_70 ?_
  obtain ⟨y8, ey8, h⟩ := lt_e h
  refine g_set C ey8 ?_
  refine g_istore_n C (f := 2) (ls' := [(2, (0, y8)), (0, (2, x0)), (1, (0, x1)), (3, (0, x3))]) dX12_sumOf_71 (by decide) rfl ?_
  obtain ⟨y9, ey9, h⟩ := lt_e h
  refine g_iincx C (ls' := [(3, (0, y9)), (2, (0, y8)), (0, (2, x0)), (1, (0, x1))]) ey9 dX12_sumOf_72 3 rfl (by decide) (by decide) rfl ?_
  refine g_goto C 4 dX12_sumOf_75 rfl ?_
  refine g_sub [2, 3, 1, 0] rfl rfl ?_
  exact H_4 _ _ _ _ _ T0 h
theorem tX12_sumOf_4 (C : MC_ E p s m c cX12_sumOf 4 RX12) (hr : meth.sig.returnType = (some FieldType.int)) (hlk : meth.locks = false) (hC : Cl_ E.2.2.2.2.2 sz) {out : Int × V_} : ∀ (n : Nat) (x0 x1 x2 x3 : Int) (v : V_), (E.2.2.2.2.2 x0 ∧ ty_ x0 = 12 ∧ ln_ x0 = 0) → fX12_sumOf_4 n x0 x1 x2 x3 v = some out → G_ E p l e (rm_ 3 69) s m args below meth c 4 sz (Q_ E below args s sz sz 0 out.1 out.2) 4 [(0, (2, x0)), (1, (0, x1)), (2, (0, x2)), (3, (0, x3))] [] v sz := by
  intro n
  induction n with
  | zero =>
    intro x0 x1 x2 x3 v T0 h
    cases h
  | succ n H_4 =>
    intro x0 x1 x2 x3 v T0 h
    rw [fX12_sumOf_4] at h
    refine g_iload_n C (f := 3) dX12_sumOf_4 3 rfl ?_
    refine g_aload_n C (f := 0) dX12_sumOf_5 0 rfl ?_
    refine g_getf C (k := 52) (kd := 0) okX12 (by decide) kf_RX12_402 dX12_sumOf_6 (rg_ hC T0.1) T0.2.1 rfl ?_
    refine g_icmp_ge C 78 dX12_sumOf_9 rfl (fun c1 => ?_) (fun c1 => ?_)
    · replace h := if_t h c1
      refine g_iload_n C (f := 2) dX12_sumOf_78 2 rfl ?_
      cases h
      exact g_iret C dX12_sumOf_79 hr hlk
    · replace h := if_f h c1
      refine g_iload_n C (f := 2) dX12_sumOf_12 2 rfl ?_
      refine g_iload_n C (f := 1) dX12_sumOf_13 1 rfl ?_
      refine g_if_ne C 25 dX12_sumOf_14 rfl (fun c2 => ?_) (fun c2 => ?_)
      · replace h := if_f h c2
        refine g_iload_n C (f := 1) dX12_sumOf_25 1 rfl ?_
        refine g_iconst C (n := 1) dX12_sumOf_26 (by decide) ?_
        refine g_icmp_ne C 38 dX12_sumOf_27 rfl (fun c3 => ?_) (fun c3 => ?_)
        · replace h := if_f h c3
          refine g_iload_n C (f := 1) dX12_sumOf_38 1 rfl ?_
          refine g_iconst C (n := 2) dX12_sumOf_39 (by decide) ?_
          refine g_icmp_ne C 51 dX12_sumOf_40 rfl (fun c4 => ?_) (fun c4 => ?_)
          · replace h := if_f h c4
            refine g_iload_n C (f := 1) dX12_sumOf_51 1 rfl ?_
            refine g_iconst C (n := 3) dX12_sumOf_52 (by decide) ?_
            refine g_icmp_ne C 64 dX12_sumOf_53 rfl (fun c5 => ?_) (fun c5 => ?_)
            · replace h := if_f h c5
              refine g_aload_n C (f := 0) dX12_sumOf_64 0 rfl ?_
              have F6 := fX12_65 hC T0.1 T0.2.1
              refine g_getR C (k := 65) (o := 46) okX12 (by decide) kf_RX12_154 dX12_sumOf_65 hC T0.1 T0.2.1 rfl rfl ?_
              refine g_iload_n C (f := 3) dX12_sumOf_68 3 rfl ?_
              obtain ⟨c7, h⟩ := ck_e h
              refine g_iald C 8 dX12_sumOf_69 (rg_ hC F6.1) F6.2.1 F6.2.2 c7 ?_
              refine g_sub [0, 1, 3] rfl rfl ?_
              exact tX12_sumOf_70 C hr hlk hC _ H_4 _ _ _ _ _ _ T0 h
            · replace h := if_t h c5
              refine g_aload_n C (f := 0) dX12_sumOf_56 0 rfl ?_
              refine g_iload_n C (f := 3) dX12_sumOf_57 3 rfl ?_
              obtain ⟨q10, eq10, h⟩ := bd_e h
              refine g_cV C [(0, x3)] (cX12_guessesOf_ok l hC T0 eq10) okX12 T0.2.1 (rg_ hC T0.1) km_RX12_579 cv_X12_guessesOf rfl (by decide) rfl rfl (Nat.le_of_ble_eq_true rfl) dX12_sumOf_58 ?_
              refine g_goto C 70 dX12_sumOf_61 rfl ?_
              refine g_sub [0, 1, 3] rfl rfl ?_
              exact tX12_sumOf_70 C hr hlk hC _ H_4 _ _ _ _ _ _ T0 h
          · replace h := if_t h c4
            refine g_aload_n C (f := 0) dX12_sumOf_43 0 rfl ?_
            refine g_iload_n C (f := 3) dX12_sumOf_44 3 rfl ?_
            obtain ⟨q11, eq11, h⟩ := bd_e h
            refine g_cV C [(0, x3)] (cX12_plainOf_ok l hC T0 eq11) okX12 T0.2.1 (rg_ hC T0.1) km_RX12_576 cv_X12_plainOf rfl (by decide) rfl rfl (Nat.le_of_ble_eq_true rfl) dX12_sumOf_45 ?_
            refine g_goto C 70 dX12_sumOf_48 rfl ?_
            refine g_sub [0, 1, 3] rfl rfl ?_
            exact tX12_sumOf_70 C hr hlk hC _ H_4 _ _ _ _ _ _ T0 h
        · replace h := if_t h c3
          refine g_aload_n C (f := 0) dX12_sumOf_30 0 rfl ?_
          refine g_iload_n C (f := 3) dX12_sumOf_31 3 rfl ?_
          obtain ⟨q12, eq12, h⟩ := bd_e h
          refine g_cV C [(0, x3)] (cX12_floorOf_ok l hC T0 eq12) okX12 T0.2.1 (rg_ hC T0.1) km_RX12_570 cv_X12_floorOf rfl (by decide) rfl rfl (Nat.le_of_ble_eq_true rfl) dX12_sumOf_32 ?_
          refine g_goto C 70 dX12_sumOf_35 rfl ?_
          refine g_sub [0, 1, 3] rfl rfl ?_
          exact tX12_sumOf_70 C hr hlk hC _ H_4 _ _ _ _ _ _ T0 h
      · replace h := if_t h c2
        refine g_aload_n C (f := 0) dX12_sumOf_17 0 rfl ?_
        refine g_iload_n C (f := 3) dX12_sumOf_18 3 rfl ?_
        obtain ⟨q13, eq13, h⟩ := bd_e h
        refine g_cV C [(0, x3)] (cX12_lengthOf_ok l hC T0 eq13) okX12 T0.2.1 (rg_ hC T0.1) km_RX12_521 cv_X12_lengthOf rfl (by decide) rfl rfl (Nat.le_of_ble_eq_true rfl) dX12_sumOf_19 ?_
        refine g_goto C 70 dX12_sumOf_22 rfl ?_
        refine g_sub [0, 1, 3] rfl rfl ?_
        exact tX12_sumOf_70 C hr hlk hC _ H_4 _ _ _ _ _ _ T0 h
end
theorem cX12_sumOf_ok (l : Launch) {E : En_} {sz : Int} (hC : Cl_ E.2.2.2.2.2 sz) {x0 x1 : Int} {v : V_} {out : Int × V_} (T0 : (E.2.2.2.2.2 x0 ∧ ty_ x0 = 12 ∧ ln_ x0 = 0)) (h : fX12_sumOf x0 x1 v = some out) : Met l yX12_sumOf [.code yX12_sumOf cX12_sumOf 4 (some FieldType.int)] (rm_ 3 69) (Pc_ E sz v [(2, x0), (0, x1)]) (Qc_ E sz 0 out.1 out.2) 0 0 (fun q => E.1 < q) := by
  refine met_G0 RX12 (by decide +kernel) rfl (Nat.le_of_ble_eq_true rfl) ?_
  intro p e s m args below meth c C hr hlk
  rw [fX12_sumOf] at h
  refine g_iconst C (n := 0) dX12_sumOf_0 (by decide) ?_
  refine g_istore_n C (f := 2) (ls' := [(2, (0, 0)), (0, (2, x0)), (1, (0, x1))]) dX12_sumOf_1 (by decide) rfl ?_
  refine g_iconst C (n := 0) dX12_sumOf_2 (by decide) ?_
  refine g_istore_n C (f := 3) (ls' := [(3, (0, 0)), (2, (0, 0)), (0, (2, x0)), (1, (0, x1))]) dX12_sumOf_3 (by decide) rfl ?_
  refine g_sub [2, 3, 1, 0] rfl rfl ?_
  exact tX12_sumOf_4 C hr hlk hC _ _ _ _ _ _ T0 h
theorem dX12_count_0 : decode cX12_count 0 = .ok (.aload_n 0, 1) := by decide +kernel
theorem dX12_count_1 : decode cX12_count 1 = .ok (.invokevirtual 542, 3) := by decide +kernel
theorem dX12_count_4 : decode cX12_count 4 = .ok (.iload_n 1, 1) := by decide +kernel
theorem dX12_count_5 : decode cX12_count 5 = .ok (.tableswitch 179 0 11 #[63, 73, 81, 89, 94, 100, 106, 112, 118, 123, 128, 134], 63) := by decide +kernel
theorem dX12_count_68 : decode cX12_count 68 = .ok (.aload_n 0, 1) := by decide +kernel
theorem dX12_count_69 : decode cX12_count 69 = .ok (.getfield 43, 3) := by decide +kernel
theorem dX12_count_72 : decode cX12_count 72 = .ok (.aload_n 0, 1) := by decide +kernel
theorem dX12_count_73 : decode cX12_count 73 = .ok (.getfield 272, 3) := by decide +kernel
theorem dX12_count_76 : decode cX12_count 76 = .ok (.iaload, 1) := by decide +kernel
theorem dX12_count_77 : decode cX12_count 77 = .ok (.ireturn, 1) := by decide +kernel
theorem dX12_count_78 : decode cX12_count 78 = .ok (.aload_n 0, 1) := by decide +kernel
theorem dX12_count_79 : decode cX12_count 79 = .ok (.sipush 255, 3) := by decide +kernel
theorem dX12_count_82 : decode cX12_count 82 = .ok (.invokevirtual 594, 3) := by decide +kernel
theorem dX12_count_85 : decode cX12_count 85 = .ok (.ireturn, 1) := by decide +kernel
theorem dX12_count_86 : decode cX12_count 86 = .ok (.aload_n 0, 1) := by decide +kernel
theorem dX12_count_87 : decode cX12_count 87 = .ok (.getfield 88, 3) := by decide +kernel
theorem dX12_count_90 : decode cX12_count 90 = .ok (.bipush 38, 2) := by decide +kernel
theorem dX12_count_92 : decode cX12_count 92 = .ok (.iaload, 1) := by decide +kernel
theorem dX12_count_93 : decode cX12_count 93 = .ok (.ireturn, 1) := by decide +kernel
theorem dX12_count_94 : decode cX12_count 94 = .ok (.aload_n 0, 1) := by decide +kernel
theorem dX12_count_95 : decode cX12_count 95 = .ok (.invokevirtual 561, 3) := by decide +kernel
theorem dX12_count_98 : decode cX12_count 98 = .ok (.ireturn, 1) := by decide +kernel
theorem dX12_count_99 : decode cX12_count 99 = .ok (.aload_n 0, 1) := by decide +kernel
theorem dX12_count_100 : decode cX12_count 100 = .ok (.iconst 0, 1) := by decide +kernel
theorem dX12_count_101 : decode cX12_count 101 = .ok (.invokevirtual 600, 3) := by decide +kernel
theorem dX12_count_104 : decode cX12_count 104 = .ok (.ireturn, 1) := by decide +kernel
theorem dX12_count_105 : decode cX12_count 105 = .ok (.aload_n 0, 1) := by decide +kernel
theorem dX12_count_106 : decode cX12_count 106 = .ok (.iconst 1, 1) := by decide +kernel
theorem dX12_count_107 : decode cX12_count 107 = .ok (.invokevirtual 600, 3) := by decide +kernel
theorem dX12_count_110 : decode cX12_count 110 = .ok (.ireturn, 1) := by decide +kernel
theorem dX12_count_111 : decode cX12_count 111 = .ok (.aload_n 0, 1) := by decide +kernel
theorem dX12_count_112 : decode cX12_count 112 = .ok (.iconst 2, 1) := by decide +kernel
theorem dX12_count_113 : decode cX12_count 113 = .ok (.invokevirtual 600, 3) := by decide +kernel
theorem dX12_count_116 : decode cX12_count 116 = .ok (.ireturn, 1) := by decide +kernel
theorem dX12_count_117 : decode cX12_count 117 = .ok (.aload_n 0, 1) := by decide +kernel
theorem dX12_count_118 : decode cX12_count 118 = .ok (.iconst 3, 1) := by decide +kernel
theorem dX12_count_119 : decode cX12_count 119 = .ok (.invokevirtual 600, 3) := by decide +kernel
theorem dX12_count_122 : decode cX12_count 122 = .ok (.ireturn, 1) := by decide +kernel
theorem dX12_count_123 : decode cX12_count 123 = .ok (.aload_n 0, 1) := by decide +kernel
theorem dX12_count_124 : decode cX12_count 124 = .ok (.getfield 208, 3) := by decide +kernel
theorem dX12_count_127 : decode cX12_count 127 = .ok (.ireturn, 1) := by decide +kernel
theorem dX12_count_128 : decode cX12_count 128 = .ok (.aload_n 0, 1) := by decide +kernel
theorem dX12_count_129 : decode cX12_count 129 = .ok (.getfield 291, 3) := by decide +kernel
theorem dX12_count_132 : decode cX12_count 132 = .ok (.ireturn, 1) := by decide +kernel
theorem dX12_count_133 : decode cX12_count 133 = .ok (.aload_n 0, 1) := by decide +kernel
theorem dX12_count_134 : decode cX12_count 134 = .ok (.iconst 4, 1) := by decide +kernel
theorem dX12_count_135 : decode cX12_count 135 = .ok (.invokevirtual 600, 3) := by decide +kernel
theorem dX12_count_138 : decode cX12_count 138 = .ok (.ireturn, 1) := by decide +kernel
theorem dX12_count_139 : decode cX12_count 139 = .ok (.aload_n 0, 1) := by decide +kernel
theorem dX12_count_140 : decode cX12_count 140 = .ok (.getfield 188, 3) := by decide +kernel
theorem dX12_count_143 : decode cX12_count 143 = .ok (.iconst 0, 1) := by decide +kernel
theorem dX12_count_144 : decode cX12_count 144 = .ok (.baload, 1) := by decide +kernel
theorem dX12_count_145 : decode cX12_count 145 = .ok (.ifCond .eq 7, 3) := by decide +kernel
theorem dX12_count_148 : decode cX12_count 148 = .ok (.iconst 1, 1) := by decide +kernel
theorem dX12_count_149 : decode cX12_count 149 = .ok (.goto 4, 3) := by decide +kernel
theorem dX12_count_152 : decode cX12_count 152 = .ok (.iconst 0, 1) := by decide +kernel
theorem dX12_count_153 : decode cX12_count 153 = .ok (.aload_n 0, 1) := by decide +kernel
theorem dX12_count_154 : decode cX12_count 154 = .ok (.getfield 188, 3) := by decide +kernel
theorem dX12_count_157 : decode cX12_count 157 = .ok (.iconst 1, 1) := by decide +kernel
theorem dX12_count_158 : decode cX12_count 158 = .ok (.baload, 1) := by decide +kernel
theorem dX12_count_159 : decode cX12_count 159 = .ok (.ifCond .eq 7, 3) := by decide +kernel
theorem dX12_count_162 : decode cX12_count 162 = .ok (.iconst 1, 1) := by decide +kernel
theorem dX12_count_163 : decode cX12_count 163 = .ok (.goto 4, 3) := by decide +kernel
theorem dX12_count_166 : decode cX12_count 166 = .ok (.iconst 0, 1) := by decide +kernel
theorem dX12_count_167 : decode cX12_count 167 = .ok (.iadd, 1) := by decide +kernel
theorem dX12_count_168 : decode cX12_count 168 = .ok (.aload_n 0, 1) := by decide +kernel
theorem dX12_count_169 : decode cX12_count 169 = .ok (.getfield 188, 3) := by decide +kernel
theorem dX12_count_172 : decode cX12_count 172 = .ok (.iconst 2, 1) := by decide +kernel
theorem dX12_count_173 : decode cX12_count 173 = .ok (.baload, 1) := by decide +kernel
theorem dX12_count_174 : decode cX12_count 174 = .ok (.ifCond .eq 7, 3) := by decide +kernel
theorem dX12_count_177 : decode cX12_count 177 = .ok (.iconst 1, 1) := by decide +kernel
theorem dX12_count_178 : decode cX12_count 178 = .ok (.goto 4, 3) := by decide +kernel
theorem dX12_count_181 : decode cX12_count 181 = .ok (.iconst 0, 1) := by decide +kernel
theorem dX12_count_182 : decode cX12_count 182 = .ok (.iadd, 1) := by decide +kernel
theorem dX12_count_183 : decode cX12_count 183 = .ok (.ireturn, 1) := by decide +kernel
theorem dX12_count_184 : decode cX12_count 184 = .ok (.iconst (-1), 1) := by decide +kernel
theorem dX12_count_185 : decode cX12_count 185 = .ok (.ireturn, 1) := by decide +kernel
def fX12_count_167 (x0 s0 s1 : Int) (v : V_) : Option (Int × V_) :=
  if (v (x0 + 57) 2) = 0 then (
    some (wr_ ((wr_ (s0 + s1)) + 0), v))
  else (
    some (wr_ ((wr_ (s0 + s1)) + 1), v))
def fX12_count_153 (x0 s0 : Int) (v : V_) : Option (Int × V_) :=
  if (v (x0 + 57) 1) = 0 then (
    fX12_count_167 x0 s0 0 v)
  else (
    fX12_count_167 x0 s0 1 v)
def fX12_count (x0 x1 : Int) (v : V_) : Option (Int × V_) :=
  bd_ (fX12_plansAll x0 v) fun q1 =>
  if x1 = 0 then (
    ck_ (0 ≤ q1.2 x0 18 ∧ q1.2 x0 18 < 2) (
    some (q1.2 (x0 + 9) (q1.2 x0 18), q1.2)))
  else (
  if x1 = 1 then (
    bd_ (fX12_linesAll x0 255 q1.2) fun q6 =>
    some (q6.1, q6.2))
  else (
  if x1 = 2 then (
    some (q1.2 (x0 + 24) 38, q1.2))
  else (
  if x1 = 3 then (
    bd_ (fX12_begunAll x0 q1.2) fun q10 =>
    some (q10.1, q10.2))
  else (
  if x1 = 4 then (
    bd_ (fX12_sumOf x0 0 q1.2) fun q12 =>
    some (q12.1, q12.2))
  else (
  if x1 = 5 then (
    bd_ (fX12_sumOf x0 1 q1.2) fun q14 =>
    some (q14.1, q14.2))
  else (
  if x1 = 6 then (
    bd_ (fX12_sumOf x0 2 q1.2) fun q16 =>
    some (q16.1, q16.2))
  else (
  if x1 = 7 then (
    bd_ (fX12_sumOf x0 3 q1.2) fun q18 =>
    some (q18.1, q18.2))
  else (
  if x1 = 8 then (
    some (q1.2 x0 2, q1.2))
  else (
  if x1 = 9 then (
    some (q1.2 x0 77, q1.2))
  else (
  if x1 = 10 then (
    bd_ (fX12_sumOf x0 4 q1.2) fun q22 =>
    some (q22.1, q22.2))
  else (
  if x1 = 11 then (
    if (q1.2 (x0 + 57) 0) = 0 then (
      fX12_count_153 x0 0 q1.2)
    else (
      fX12_count_153 x0 1 q1.2))
  else (
  some ((-1), q1.2)))))))))))))
section
variable {E : En_} {p : Program} {l : Launch} {e : Env} {s : State} {m : MethodId} {args : Array Value} {below : List Frame} {meth : Method} {c : Code} {sz : Int}
theorem tX12_count_167 (C : MC_ E p s m c cX12_count 2 RX12) (hr : meth.sig.returnType = (some FieldType.int)) (hlk : meth.locks = false) (hC : Cl_ E.2.2.2.2.2 sz) {out : Int × V_} (x0 s0 s1 : Int) (v : V_) (T0 : (E.2.2.2.2.2 x0 ∧ ty_ x0 = 12 ∧ ln_ x0 = 0)) (h : fX12_count_167 x0 s0 s1 v = some out) : G_ E p l e (rm_ 6 133) s m args below meth c 2 sz (Q_ E below args s sz sz 0 out.1 out.2) 167 [(0, (2, x0))] [(0, s1), (0, s0)] v sz := by
  rw [fX12_count_167] at h
  refine g_iadd C dX12_count_167 ?_
  refine g_aload_n C (f := 0) dX12_count_168 0 rfl ?_
  have F28 := fX12_80 hC T0.1 T0.2.1
  refine g_getR C (k := 80) (o := 57) okX12 (by decide) kf_RX12_188 dX12_count_169 hC T0.1 T0.2.1 rfl rfl ?_
  refine g_iconst C (n := 2) dX12_count_172 (by decide) ?_
  refine g_zald C 3 dX12_count_173 (rg_ hC F28.1) F28.2.1 F28.2.2 (by decide) ?_
  refine g_if_eq C 181 dX12_count_174 rfl (fun c29 => ?_) (fun c29 => ?_)
  · replace h := if_t h c29
    refine g_iconst C (n := 0) dX12_count_181 (by decide) ?_
    refine g_iadd C dX12_count_182 ?_
    cases h
    exact g_iret C dX12_count_183 hr hlk
  · replace h := if_f h c29
    refine g_iconst C (n := 1) dX12_count_177 (by decide) ?_
    refine g_goto C 182 dX12_count_178 rfl ?_
    refine g_iadd C dX12_count_182 ?_
    cases h
    exact g_iret C dX12_count_183 hr hlk
theorem tX12_count_153 (C : MC_ E p s m c cX12_count 2 RX12) (hr : meth.sig.returnType = (some FieldType.int)) (hlk : meth.locks = false) (hC : Cl_ E.2.2.2.2.2 sz) {out : Int × V_} (x0 s0 : Int) (v : V_) (T0 : (E.2.2.2.2.2 x0 ∧ ty_ x0 = 12 ∧ ln_ x0 = 0)) (h : fX12_count_153 x0 s0 v = some out) : G_ E p l e (rm_ 6 133) s m args below meth c 2 sz (Q_ E below args s sz sz 0 out.1 out.2) 153 [(0, (2, x0))] [(0, s0)] v sz := by
  rw [fX12_count_153] at h
  refine g_aload_n C (f := 0) dX12_count_153 0 rfl ?_
  have F26 := fX12_80 hC T0.1 T0.2.1
  refine g_getR C (k := 80) (o := 57) okX12 (by decide) kf_RX12_188 dX12_count_154 hC T0.1 T0.2.1 rfl rfl ?_
  refine g_iconst C (n := 1) dX12_count_157 (by decide) ?_
  refine g_zald C 3 dX12_count_158 (rg_ hC F26.1) F26.2.1 F26.2.2 (by decide) ?_
  refine g_if_eq C 166 dX12_count_159 rfl (fun c27 => ?_) (fun c27 => ?_)
  · replace h := if_t h c27
    refine g_iconst C (n := 0) dX12_count_166 (by decide) ?_
    refine g_sub [0] rfl rfl ?_
    exact tX12_count_167 C hr hlk hC _ _ _ _ T0 h
  · replace h := if_f h c27
    refine g_iconst C (n := 1) dX12_count_162 (by decide) ?_
    refine g_goto C 167 dX12_count_163 rfl ?_
    refine g_sub [0] rfl rfl ?_
    exact tX12_count_167 C hr hlk hC _ _ _ _ T0 h
end
theorem cX12_count_ok (l : Launch) {E : En_} {sz : Int} (hC : Cl_ E.2.2.2.2.2 sz) {x0 x1 : Int} {v : V_} {out : Int × V_} (T0 : (E.2.2.2.2.2 x0 ∧ ty_ x0 = 12 ∧ ln_ x0 = 0)) (h : fX12_count x0 x1 v = some out) : Met l yX12_count [.code yX12_count cX12_count 2 (some FieldType.int)] (rm_ 6 133) (Pc_ E sz v [(2, x0), (0, x1)]) (Qc_ E sz 0 out.1 out.2) 0 0 (fun q => E.1 < q) := by
  refine met_G0 RX12 (by decide +kernel) rfl (Nat.le_of_ble_eq_true rfl) ?_
  intro p e s m args below meth c C hr hlk
  rw [fX12_count] at h
  refine g_aload_n C (f := 0) dX12_count_0 0 rfl ?_
  obtain ⟨q1, eq1, h⟩ := bd_e h
  refine g_cV C [] (cX12_plansAll_ok l hC T0 eq1) okX12 T0.2.1 (rg_ hC T0.1) km_RX12_542 cv_X12_plansAll rfl (by decide) rfl rfl (Nat.le_of_ble_eq_true rfl) dX12_count_1 ?_
  refine g_iload_n C (f := 1) dX12_count_4 1 rfl ?_
  by_cases c2 : x1 = 0
  · replace h := if_t h c2
    refine g_tin C 68 dX12_count_5 0 c2 (by decide) (by decide) rfl rfl ?_
    refine g_aload_n C (f := 0) dX12_count_68 0 rfl ?_
    have F3 := fX12_22 hC T0.1 T0.2.1
    refine g_getR C (k := 22) (o := 9) okX12 (by decide) kf_RX12_43 dX12_count_69 hC T0.1 T0.2.1 rfl rfl ?_
    refine g_aload_n C (f := 0) dX12_count_72 0 rfl ?_
    refine g_getf C (k := 18) (kd := 0) okX12 (by decide) kf_RX12_272 dX12_count_73 (rg_ hC T0.1) T0.2.1 rfl ?_
    obtain ⟨c4, h⟩ := ck_e h
    refine g_iald C 2 dX12_count_76 (rg_ hC F3.1) F3.2.1 F3.2.2 c4 ?_
    cases h
    exact g_iret C dX12_count_77 hr hlk
  replace h := if_f h c2
  by_cases c5 : x1 = 1
  · replace h := if_t h c5
    refine g_tin C 78 dX12_count_5 1 c5 (by decide) (by decide) rfl rfl ?_
    refine g_aload_n C (f := 0) dX12_count_78 0 rfl ?_
    refine g_sipush C (n := 255) dX12_count_79 (by decide) ?_
    obtain ⟨q6, eq6, h⟩ := bd_e h
    refine g_cV C [(0, 255)] (cX12_linesAll_ok l hC T0 eq6) okX12 T0.2.1 (rg_ hC T0.1) km_RX12_594 cv_X12_linesAll rfl (by decide) rfl rfl (Nat.le_of_ble_eq_true rfl) dX12_count_82 ?_
    cases h
    exact g_iret C dX12_count_85 hr hlk
  replace h := if_f h c5
  by_cases c7 : x1 = 2
  · replace h := if_t h c7
    refine g_tin C 86 dX12_count_5 2 c7 (by decide) (by decide) rfl rfl ?_
    refine g_aload_n C (f := 0) dX12_count_86 0 rfl ?_
    have F8 := fX12_37 hC T0.1 T0.2.1
    refine g_getR C (k := 37) (o := 24) okX12 (by decide) kf_RX12_88 dX12_count_87 hC T0.1 T0.2.1 rfl rfl ?_
    refine g_bipush C (n := 38) dX12_count_90 (by decide) ?_
    refine g_iald C 47 dX12_count_92 (rg_ hC F8.1) F8.2.1 F8.2.2 (by decide) ?_
    cases h
    exact g_iret C dX12_count_93 hr hlk
  replace h := if_f h c7
  by_cases c9 : x1 = 3
  · replace h := if_t h c9
    refine g_tin C 94 dX12_count_5 3 c9 (by decide) (by decide) rfl rfl ?_
    refine g_aload_n C (f := 0) dX12_count_94 0 rfl ?_
    obtain ⟨q10, eq10, h⟩ := bd_e h
    refine g_cV C [] (cX12_begunAll_ok l hC T0 eq10) okX12 T0.2.1 (rg_ hC T0.1) km_RX12_561 cv_X12_begunAll rfl (by decide) rfl rfl (Nat.le_of_ble_eq_true rfl) dX12_count_95 ?_
    cases h
    exact g_iret C dX12_count_98 hr hlk
  replace h := if_f h c9
  by_cases c11 : x1 = 4
  · replace h := if_t h c11
    refine g_tin C 99 dX12_count_5 4 c11 (by decide) (by decide) rfl rfl ?_
    refine g_aload_n C (f := 0) dX12_count_99 0 rfl ?_
    refine g_iconst C (n := 0) dX12_count_100 (by decide) ?_
    obtain ⟨q12, eq12, h⟩ := bd_e h
    refine g_cV C [(0, 0)] (cX12_sumOf_ok l hC T0 eq12) okX12 T0.2.1 (rg_ hC T0.1) km_RX12_600 cv_X12_sumOf rfl (by decide) rfl rfl (Nat.le_of_ble_eq_true rfl) dX12_count_101 ?_
    cases h
    exact g_iret C dX12_count_104 hr hlk
  replace h := if_f h c11
  by_cases c13 : x1 = 5
  · replace h := if_t h c13
    refine g_tin C 105 dX12_count_5 5 c13 (by decide) (by decide) rfl rfl ?_
    refine g_aload_n C (f := 0) dX12_count_105 0 rfl ?_
    refine g_iconst C (n := 1) dX12_count_106 (by decide) ?_
    obtain ⟨q14, eq14, h⟩ := bd_e h
    refine g_cV C [(0, 1)] (cX12_sumOf_ok l hC T0 eq14) okX12 T0.2.1 (rg_ hC T0.1) km_RX12_600 cv_X12_sumOf rfl (by decide) rfl rfl (Nat.le_of_ble_eq_true rfl) dX12_count_107 ?_
    cases h
    exact g_iret C dX12_count_110 hr hlk
  replace h := if_f h c13
  by_cases c15 : x1 = 6
  · replace h := if_t h c15
    refine g_tin C 111 dX12_count_5 6 c15 (by decide) (by decide) rfl rfl ?_
    refine g_aload_n C (f := 0) dX12_count_111 0 rfl ?_
    refine g_iconst C (n := 2) dX12_count_112 (by decide) ?_
    obtain ⟨q16, eq16, h⟩ := bd_e h
    refine g_cV C [(0, 2)] (cX12_sumOf_ok l hC T0 eq16) okX12 T0.2.1 (rg_ hC T0.1) km_RX12_600 cv_X12_sumOf rfl (by decide) rfl rfl (Nat.le_of_ble_eq_true rfl) dX12_count_113 ?_
    cases h
    exact g_iret C dX12_count_116 hr hlk
  replace h := if_f h c15
  by_cases c17 : x1 = 7
  · replace h := if_t h c17
    refine g_tin C 117 dX12_count_5 7 c17 (by decide) (by decide) rfl rfl ?_
    refine g_aload_n C (f := 0) dX12_count_117 0 rfl ?_
    refine g_iconst C (n := 3) dX12_count_118 (by decide) ?_
    obtain ⟨q18, eq18, h⟩ := bd_e h
    refine g_cV C [(0, 3)] (cX12_sumOf_ok l hC T0 eq18) okX12 T0.2.1 (rg_ hC T0.1) km_RX12_600 cv_X12_sumOf rfl (by decide) rfl rfl (Nat.le_of_ble_eq_true rfl) dX12_count_119 ?_
    cases h
    exact g_iret C dX12_count_122 hr hlk
  replace h := if_f h c17
  by_cases c19 : x1 = 8
  · replace h := if_t h c19
    refine g_tin C 123 dX12_count_5 8 c19 (by decide) (by decide) rfl rfl ?_
    refine g_aload_n C (f := 0) dX12_count_123 0 rfl ?_
    refine g_getf C (k := 2) (kd := 0) okX12 (by decide) kf_RX12_208 dX12_count_124 (rg_ hC T0.1) T0.2.1 rfl ?_
    cases h
    exact g_iret C dX12_count_127 hr hlk
  replace h := if_f h c19
  by_cases c20 : x1 = 9
  · replace h := if_t h c20
    refine g_tin C 128 dX12_count_5 9 c20 (by decide) (by decide) rfl rfl ?_
    refine g_aload_n C (f := 0) dX12_count_128 0 rfl ?_
    refine g_getf C (k := 77) (kd := 0) okX12 (by decide) kf_RX12_291 dX12_count_129 (rg_ hC T0.1) T0.2.1 rfl ?_
    cases h
    exact g_iret C dX12_count_132 hr hlk
  replace h := if_f h c20
  by_cases c21 : x1 = 10
  · replace h := if_t h c21
    refine g_tin C 133 dX12_count_5 10 c21 (by decide) (by decide) rfl rfl ?_
    refine g_aload_n C (f := 0) dX12_count_133 0 rfl ?_
    refine g_iconst C (n := 4) dX12_count_134 (by decide) ?_
    obtain ⟨q22, eq22, h⟩ := bd_e h
    refine g_cV C [(0, 4)] (cX12_sumOf_ok l hC T0 eq22) okX12 T0.2.1 (rg_ hC T0.1) km_RX12_600 cv_X12_sumOf rfl (by decide) rfl rfl (Nat.le_of_ble_eq_true rfl) dX12_count_135 ?_
    cases h
    exact g_iret C dX12_count_138 hr hlk
  replace h := if_f h c21
  by_cases c23 : x1 = 11
  · replace h := if_t h c23
    refine g_tin C 139 dX12_count_5 11 c23 (by decide) (by decide) rfl rfl ?_
    refine g_aload_n C (f := 0) dX12_count_139 0 rfl ?_
    have F24 := fX12_80 hC T0.1 T0.2.1
    refine g_getR C (k := 80) (o := 57) okX12 (by decide) kf_RX12_188 dX12_count_140 hC T0.1 T0.2.1 rfl rfl ?_
    refine g_iconst C (n := 0) dX12_count_143 (by decide) ?_
    refine g_zald C 3 dX12_count_144 (rg_ hC F24.1) F24.2.1 F24.2.2 (by decide) ?_
    refine g_if_eq C 152 dX12_count_145 rfl (fun c25 => ?_) (fun c25 => ?_)
    · replace h := if_t h c25
      refine g_iconst C (n := 0) dX12_count_152 (by decide) ?_
      refine g_sub [0] rfl rfl ?_
      exact tX12_count_153 C hr hlk hC _ _ _ T0 h
    · replace h := if_f h c25
      refine g_iconst C (n := 1) dX12_count_148 (by decide) ?_
      refine g_goto C 153 dX12_count_149 rfl ?_
      refine g_sub [0] rfl rfl ?_
      exact tX12_count_153 C hr hlk hC _ _ _ T0 h
  replace h := if_f h c23
  refine g_tdef C (x := x1) 184 dX12_count_5 (by intro a ha h1 h2; exact absurd h2 (by omega)) rfl ?_
  refine g_iconst C (n := (-1)) dX12_count_184 (by decide) ?_
  cases h
  exact g_iret C dX12_count_185 hr hlk
