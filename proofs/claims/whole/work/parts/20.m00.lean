theorem dX0_bring_0 : decode cX0_bring 0 = .ok (.aload_n 0, 1) := by decide +kernel
theorem dX0_bring_1 : decode cX0_bring 1 = .ok (.getfield 18, 3) := by decide +kernel
theorem dX0_bring_4 : decode cX0_bring 4 = .ok (.iload_n 1, 1) := by decide +kernel
theorem dX0_bring_5 : decode cX0_bring 5 = .ok (.aaload, 1) := by decide +kernel
theorem dX0_bring_6 : decode cX0_bring 6 = .ok (.iconst 0, 1) := by decide +kernel
theorem dX0_bring_7 : decode cX0_bring 7 = .ok (.aload_n 2, 1) := by decide +kernel
theorem dX0_bring_8 : decode cX0_bring 8 = .ok (.getfield 29, 3) := by decide +kernel
theorem dX0_bring_11 : decode cX0_bring 11 = .ok (.iconst 0, 1) := by decide +kernel
theorem dX0_bring_12 : decode cX0_bring 12 = .ok (.bipush 47, 2) := by decide +kernel
theorem dX0_bring_14 : decode cX0_bring 14 = .ok (.invokestatic 33, 3) := by decide +kernel
theorem dX0_bring_17 : decode cX0_bring 17 = .ok (.return_, 1) := by decide +kernel
def fX0_bring (x0 x1 x2 : Int) (v : V_) : Option (Int × V_) :=
  ck_ (0 ≤ x1 ∧ x1 < 3) (
  lt_ (cp_ v ((x0 + 42) + (1 + 1 * x1)) 0 (x2 + 1) 0 47) fun v5 =>
  some (0, v5))
theorem cX0_bring_ok (l : Launch) {E : En_} {sz : Int} (hC : Cl_ E.2.2.2.2.2 sz) {x0 x1 x2 : Int} {v : V_} {out : Int × V_} (T0 : (E.2.2.2.2.2 x0 ∧ ty_ x0 = 0 ∧ ln_ x0 = 0)) (T2 : (E.2.2.2.2.2 x2 ∧ ty_ x2 = 7 ∧ ln_ x2 = 0)) (h : fX0_bring x0 x1 x2 v = some out) : Met l yX0_bring [.code yX0_bring cX0_bring 3 (none : Option FieldType)] (rm_ 1 26) (Pc_ E sz v [(2, x0), (0, x1), (2, x2)]) (Qc_ E sz 9 out.1 out.2) 0 0 (fun q => E.1 < q) := by
  refine met_G0 RX0 (by decide +kernel) rfl (Nat.le_of_ble_eq_true rfl) ?_
  intro p e s m args below meth c C hr hlk
  rw [fX0_bring] at h
  refine g_aload_n C (f := 0) dX0_bring_0 0 rfl ?_
  have F1 := fX0_1 hC T0.1 T0.2.1
  refine g_getR C (k := 1) (o := 42) okX0 (by decide) kf_RX0_18 dX0_bring_1 hC T0.1 T0.2.1 rfl rfl ?_
  refine g_iload_n C (f := 1) dX0_bring_4 1 rfl ?_
  obtain ⟨c2, h⟩ := ck_e h
  have F3 := fE_slots (i := x1) hC F1.1 F1.2.1 F1.2.2 c2
  refine g_aald C 24 3 1 1 dX0_bring_5 hC F1.1 F1.2.1 F1.2.2 c2 (by decide) oA_slots ?_
  refine g_iconst C (n := 0) dX0_bring_6 (by decide) ?_
  refine g_aload_n C (f := 2) dX0_bring_7 2 rfl ?_
  have F4 := fX7_0 hC T2.1 T2.2.1
  refine g_getR C (k := 0) (o := 1) okX7 (by decide) kf_RX0_29 dX0_bring_8 hC T2.1 T2.2.1 rfl rfl ?_
  refine g_iconst C (n := 0) dX0_bring_11 (by decide) ?_
  refine g_bipush C (n := 47) dX0_bring_12 (by decide) ?_
  obtain ⟨v5, ev5, h⟩ := lt_e h
  refine g_copy C km_RX0_33 47 47 dX0_bring_14 (rg_ hC F3.1) F3.2.1 F3.2.2 (rg_ hC F4.1) F4.2.1 F4.2.2 (by decide) ⟨Nat.le_of_ble_eq_true rfl, Nat.le_of_ble_eq_true rfl⟩ v5 ev5 ?_
  cases h
  exact g_vret C dX0_bring_17 hr hlk
theorem dX0_forgetDone_0 : decode cX0_forgetDone 0 = .ok (.aload_n 0, 1) := by decide +kernel
theorem dX0_forgetDone_1 : decode cX0_forgetDone 1 = .ok (.iconst 0, 1) := by decide +kernel
theorem dX0_forgetDone_2 : decode cX0_forgetDone 2 = .ok (.putfield 39, 3) := by decide +kernel
theorem dX0_forgetDone_5 : decode cX0_forgetDone 5 = .ok (.return_, 1) := by decide +kernel
def fX0_forgetDone (x0 : Int) (v : V_) : Option (Int × V_) :=
  lt_ (up_ v x0 4 0) fun v1 =>
  some (0, v1)
theorem cX0_forgetDone_ok (l : Launch) {E : En_} {sz : Int} (hC : Cl_ E.2.2.2.2.2 sz) {x0 : Int} {v : V_} {out : Int × V_} (T0 : (E.2.2.2.2.2 x0 ∧ ty_ x0 = 0 ∧ ln_ x0 = 0)) (h : fX0_forgetDone x0 v = some out) : Met l yX0_forgetDone [.code yX0_forgetDone cX0_forgetDone 1 (none : Option FieldType)] (rm_ 0 0) (Pc_ E sz v [(2, x0)]) (Qc_ E sz 9 out.1 out.2) 0 0 (fun q => E.1 < q) := by
  refine met_G0 RX0 (by decide +kernel) rfl (Nat.le_of_ble_eq_true rfl) ?_
  intro p e s m args below meth c C hr hlk
  rw [fX0_forgetDone] at h
  refine g_aload_n C (f := 0) dX0_forgetDone_0 0 rfl ?_
  refine g_iconst C (n := 0) dX0_forgetDone_1 (by decide) ?_
  obtain ⟨v1, ev1, h⟩ := lt_e h
  refine g_putf C (k := 4) (kd := 0) okX0 (by decide) kf_RX0_39 dX0_forgetDone_2 (rg_ hC T0.1) T0.2.1 rfl rfl nvI (Or.inl rfl) v1 ev1 ?_
  cases h
  exact g_vret C dX0_forgetDone_5 hr hlk
theorem dX0_forgetHeld_0 : decode cX0_forgetHeld 0 = .ok (.iconst 0, 1) := by decide +kernel
theorem dX0_forgetHeld_1 : decode cX0_forgetHeld 1 = .ok (.istore_n 1, 1) := by decide +kernel
theorem dX0_forgetHeld_2 : decode cX0_forgetHeld 2 = .ok (.iload_n 1, 1) := by decide +kernel
theorem dX0_forgetHeld_3 : decode cX0_forgetHeld 3 = .ok (.iconst 3, 1) := by decide +kernel
theorem dX0_forgetHeld_4 : decode cX0_forgetHeld 4 = .ok (.if_icmp .ge 16, 3) := by decide +kernel
theorem dX0_forgetHeld_7 : decode cX0_forgetHeld 7 = .ok (.aload_n 0, 1) := by decide +kernel
theorem dX0_forgetHeld_8 : decode cX0_forgetHeld 8 = .ok (.getfield 21, 3) := by decide +kernel
theorem dX0_forgetHeld_11 : decode cX0_forgetHeld 11 = .ok (.iload_n 1, 1) := by decide +kernel
theorem dX0_forgetHeld_12 : decode cX0_forgetHeld 12 = .ok (.iconst 0, 1) := by decide +kernel
theorem dX0_forgetHeld_13 : decode cX0_forgetHeld 13 = .ok (.bastore, 1) := by decide +kernel
theorem dX0_forgetHeld_14 : decode cX0_forgetHeld 14 = .ok (.iinc 1 1, 3) := by decide +kernel
theorem dX0_forgetHeld_17 : decode cX0_forgetHeld 17 = .ok (.goto (-15), 3) := by decide +kernel
theorem dX0_forgetHeld_20 : decode cX0_forgetHeld 20 = .ok (.return_, 1) := by decide +kernel
def fX0_forgetHeld_2 : Nat → Int → Int → V_ → Option (Int × V_)
  | 0, _, _, _ => none
  | n + 1, x0, x1, v =>
    if 3 ≤ x1 then (
      some (0, v))
    else (
      ck_ (0 ≤ x1 ∧ x1 < 3) (
      lt_ (up_ v (x0 + 46) x1 0) fun v4 =>
      lt_ (wr_ (x1 + 1)) fun y5 =>
      (fX0_forgetHeld_2 n) x0 y5 v4))
def fX0_forgetHeld (x0 : Int) (v : V_) : Option (Int × V_) :=
  fX0_forgetHeld_2 fu_ x0 0 v
section
variable {E : En_} {p : Program} {l : Launch} {e : Env} {s : State} {m : MethodId} {args : Array Value} {below : List Frame} {meth : Method} {c : Code} {sz : Int}
theorem tX0_forgetHeld_2 (C : MC_ E p s m c cX0_forgetHeld 2 RX0) (hr : meth.sig.returnType = (none : Option FieldType)) (hlk : meth.locks = false) (hC : Cl_ E.2.2.2.2.2 sz) {out : Int × V_} : ∀ (n : Nat) (x0 x1 : Int) (v : V_), (E.2.2.2.2.2 x0 ∧ ty_ x0 = 0 ∧ ln_ x0 = 0) → fX0_forgetHeld_2 n x0 x1 v = some out → G_ E p l e (rm_ 0 0) s m args below meth c 2 sz (Q_ E below args s sz sz 9 out.1 out.2) 2 [(0, (2, x0)), (1, (0, x1))] [] v sz := by
  intro n
  induction n with
  | zero =>
    intro x0 x1 v T0 h
    cases h
  | succ n H_2 =>
    intro x0 x1 v T0 h
    rw [fX0_forgetHeld_2] at h
    refine g_iload_n C (f := 1) dX0_forgetHeld_2 1 rfl ?_
    refine g_iconst C (n := 3) dX0_forgetHeld_3 (by decide) ?_
    refine g_icmp_ge C 20 dX0_forgetHeld_4 rfl (fun c1 => ?_) (fun c1 => ?_)
    · replace h := if_t h c1
      cases h
      exact g_vret C dX0_forgetHeld_20 hr hlk
    · replace h := if_f h c1
      refine g_aload_n C (f := 0) dX0_forgetHeld_7 0 rfl ?_
      have F2 := fX0_2 hC T0.1 T0.2.1
      refine g_getR C (k := 2) (o := 46) okX0 (by decide) kf_RX0_21 dX0_forgetHeld_8 hC T0.1 T0.2.1 rfl rfl ?_
      refine g_iload_n C (f := 1) dX0_forgetHeld_11 1 rfl ?_
      refine g_iconst C (n := 0) dX0_forgetHeld_12 (by decide) ?_
      obtain ⟨c3, h⟩ := ck_e h
      obtain ⟨v4, ev4, h⟩ := lt_e h
      refine g_zast C 3 dX0_forgetHeld_13 (rg_ hC F2.1) F2.2.1 F2.2.2 c3 (Or.inl rfl) v4 ev4 ?_
      obtain ⟨y5, ey5, h⟩ := lt_e h
      refine g_iincx C (ls' := [(1, (0, y5)), (0, (2, x0))]) ey5 dX0_forgetHeld_14 1 rfl (by decide) (by decide) rfl ?_
      refine g_goto C 2 dX0_forgetHeld_17 rfl ?_
      refine g_sub [1, 0] rfl rfl ?_
      exact H_2 _ _ _ T0 h
end
theorem cX0_forgetHeld_ok (l : Launch) {E : En_} {sz : Int} (hC : Cl_ E.2.2.2.2.2 sz) {x0 : Int} {v : V_} {out : Int × V_} (T0 : (E.2.2.2.2.2 x0 ∧ ty_ x0 = 0 ∧ ln_ x0 = 0)) (h : fX0_forgetHeld x0 v = some out) : Met l yX0_forgetHeld [.code yX0_forgetHeld cX0_forgetHeld 2 (none : Option FieldType)] (rm_ 0 0) (Pc_ E sz v [(2, x0)]) (Qc_ E sz 9 out.1 out.2) 0 0 (fun q => E.1 < q) := by
  refine met_G0 RX0 (by decide +kernel) rfl (Nat.le_of_ble_eq_true rfl) ?_
  intro p e s m args below meth c C hr hlk
  rw [fX0_forgetHeld] at h
  refine g_iconst C (n := 0) dX0_forgetHeld_0 (by decide) ?_
  refine g_istore_n C (f := 1) (ls' := [(1, (0, 0)), (0, (2, x0))]) dX0_forgetHeld_1 (by decide) rfl ?_
  refine g_sub [1, 0] rfl rfl ?_
  exact tX0_forgetHeld_2 C hr hlk hC _ _ _ _ T0 h
theorem dX0_heldSlots_0 : decode cX0_heldSlots 0 = .ok (.iconst 0, 1) := by decide +kernel
theorem dX0_heldSlots_1 : decode cX0_heldSlots 1 = .ok (.istore_n 1, 1) := by decide +kernel
theorem dX0_heldSlots_2 : decode cX0_heldSlots 2 = .ok (.iconst 0, 1) := by decide +kernel
theorem dX0_heldSlots_3 : decode cX0_heldSlots 3 = .ok (.istore_n 2, 1) := by decide +kernel
theorem dX0_heldSlots_4 : decode cX0_heldSlots 4 = .ok (.iload_n 2, 1) := by decide +kernel
theorem dX0_heldSlots_5 : decode cX0_heldSlots 5 = .ok (.iconst 3, 1) := by decide +kernel
theorem dX0_heldSlots_6 : decode cX0_heldSlots 6 = .ok (.if_icmp .ge 26, 3) := by decide +kernel
theorem dX0_heldSlots_9 : decode cX0_heldSlots 9 = .ok (.iload_n 1, 1) := by decide +kernel
theorem dX0_heldSlots_10 : decode cX0_heldSlots 10 = .ok (.aload_n 0, 1) := by decide +kernel
theorem dX0_heldSlots_11 : decode cX0_heldSlots 11 = .ok (.getfield 21, 3) := by decide +kernel
theorem dX0_heldSlots_14 : decode cX0_heldSlots 14 = .ok (.iload_n 2, 1) := by decide +kernel
theorem dX0_heldSlots_15 : decode cX0_heldSlots 15 = .ok (.baload, 1) := by decide +kernel
theorem dX0_heldSlots_16 : decode cX0_heldSlots 16 = .ok (.ifCond .eq 7, 3) := by decide +kernel
theorem dX0_heldSlots_19 : decode cX0_heldSlots 19 = .ok (.iconst 1, 1) := by decide +kernel
theorem dX0_heldSlots_20 : decode cX0_heldSlots 20 = .ok (.goto 4, 3) := by decide +kernel
theorem dX0_heldSlots_23 : decode cX0_heldSlots 23 = .ok (.iconst 0, 1) := by decide +kernel
theorem dX0_heldSlots_24 : decode cX0_heldSlots 24 = .ok (.iadd, 1) := by decide +kernel
theorem dX0_heldSlots_25 : decode cX0_heldSlots 25 = .ok (.istore_n 1, 1) := by decide +kernel
theorem dX0_heldSlots_26 : decode cX0_heldSlots 26 = .ok (.iinc 2 1, 3) := by decide +kernel
theorem dX0_heldSlots_29 : decode cX0_heldSlots 29 = .ok (.goto (-25), 3) := by decide +kernel
theorem dX0_heldSlots_32 : decode cX0_heldSlots 32 = .ok (.iload_n 1, 1) := by decide +kernel
theorem dX0_heldSlots_33 : decode cX0_heldSlots 33 = .ok (.ireturn, 1) := by decide +kernel
def fX0_heldSlots_24 (k4 : Int → Int → Int → V_ → Option (Int × V_)) (x0 x2 s0 s1 : Int) (v : V_) : Option (Int × V_) :=
  lt_ (wr_ (s0 + s1)) fun y5 =>
  lt_ (wr_ (x2 + 1)) fun y6 =>
  k4 x0 y5 y6 v
def fX0_heldSlots_4 : Nat → Int → Int → Int → V_ → Option (Int × V_)
  | 0, _, _, _, _ => none
  | n + 1, x0, x1, x2, v =>
    if 3 ≤ x2 then (
      some (x1, v))
    else (
      ck_ (0 ≤ x2 ∧ x2 < 3) (
      if (v (x0 + 46) x2) = 0 then (
        fX0_heldSlots_24 (fX0_heldSlots_4 n) x0 x2 x1 0 v)
      else (
        fX0_heldSlots_24 (fX0_heldSlots_4 n) x0 x2 x1 1 v)))
def fX0_heldSlots (x0 : Int) (v : V_) : Option (Int × V_) :=
  fX0_heldSlots_4 fu_ x0 0 0 v
section
variable {E : En_} {p : Program} {l : Launch} {e : Env} {s : State} {m : MethodId} {args : Array Value} {below : List Frame} {meth : Method} {c : Code} {sz : Int}
theorem tX0_heldSlots_24 (C : MC_ E p s m c cX0_heldSlots 3 RX0) (hr : meth.sig.returnType = (some FieldType.int)) (hlk : meth.locks = false) (hC : Cl_ E.2.2.2.2.2 sz) {out : Int × V_} (k4 : Int → Int → Int → V_ → Option (Int × V_)) (H_4 : ∀ (x0 x1 x2 : Int) (v : V_), (E.2.2.2.2.2 x0 ∧ ty_ x0 = 0 ∧ ln_ x0 = 0) → k4 x0 x1 x2 v = some out → G_ E p l e (rm_ 0 0) s m args below meth c 3 sz (Q_ E below args s sz sz 0 out.1 out.2) 4 [(0, (2, x0)), (1, (0, x1)), (2, (0, x2))] [] v sz) (x0 x2 s0 s1 : Int) (v : V_) (T0 : (E.2.2.2.2.2 x0 ∧ ty_ x0 = 0 ∧ ln_ x0 = 0)) (h : fX0_heldSlots_24 k4 x0 x2 s0 s1 v = some out) : G_ E p l e (rm_ 0 0) s m args below meth c 3 sz (Q_ E below args s sz sz 0 out.1 out.2) 24 [(0, (2, x0)), (2, (0, x2))] [(0, s1), (0, s0)] v sz := by
  rw [fX0_heldSlots_24] at h
  refine g_iadd C dX0_heldSlots_24 ?_
  obtain ⟨y5, ey5, h⟩ := lt_e h
  refine g_set C ey5 ?_
  refine g_istore_n C (f := 1) (ls' := [(1, (0, y5)), (0, (2, x0)), (2, (0, x2))]) dX0_heldSlots_25 (by decide) rfl ?_
  obtain ⟨y6, ey6, h⟩ := lt_e h
  refine g_iincx C (ls' := [(2, (0, y6)), (1, (0, y5)), (0, (2, x0))]) ey6 dX0_heldSlots_26 2 rfl (by decide) (by decide) rfl ?_
  refine g_goto C 4 dX0_heldSlots_29 rfl ?_
  refine g_sub [2, 1, 0] rfl rfl ?_
  exact H_4 _ _ _ _ T0 h
theorem tX0_heldSlots_4 (C : MC_ E p s m c cX0_heldSlots 3 RX0) (hr : meth.sig.returnType = (some FieldType.int)) (hlk : meth.locks = false) (hC : Cl_ E.2.2.2.2.2 sz) {out : Int × V_} : ∀ (n : Nat) (x0 x1 x2 : Int) (v : V_), (E.2.2.2.2.2 x0 ∧ ty_ x0 = 0 ∧ ln_ x0 = 0) → fX0_heldSlots_4 n x0 x1 x2 v = some out → G_ E p l e (rm_ 0 0) s m args below meth c 3 sz (Q_ E below args s sz sz 0 out.1 out.2) 4 [(0, (2, x0)), (1, (0, x1)), (2, (0, x2))] [] v sz := by
  intro n
  induction n with
  | zero =>
    intro x0 x1 x2 v T0 h
    cases h
  | succ n H_4 =>
    intro x0 x1 x2 v T0 h
    rw [fX0_heldSlots_4] at h
    refine g_iload_n C (f := 2) dX0_heldSlots_4 2 rfl ?_
    refine g_iconst C (n := 3) dX0_heldSlots_5 (by decide) ?_
    refine g_icmp_ge C 32 dX0_heldSlots_6 rfl (fun c1 => ?_) (fun c1 => ?_)
    · replace h := if_t h c1
      refine g_iload_n C (f := 1) dX0_heldSlots_32 1 rfl ?_
      cases h
      exact g_iret C dX0_heldSlots_33 hr hlk
    · replace h := if_f h c1
      refine g_iload_n C (f := 1) dX0_heldSlots_9 1 rfl ?_
      refine g_aload_n C (f := 0) dX0_heldSlots_10 0 rfl ?_
      have F2 := fX0_2 hC T0.1 T0.2.1
      refine g_getR C (k := 2) (o := 46) okX0 (by decide) kf_RX0_21 dX0_heldSlots_11 hC T0.1 T0.2.1 rfl rfl ?_
      refine g_iload_n C (f := 2) dX0_heldSlots_14 2 rfl ?_
      obtain ⟨c3, h⟩ := ck_e h
      refine g_zald C 3 dX0_heldSlots_15 (rg_ hC F2.1) F2.2.1 F2.2.2 c3 ?_
      refine g_if_eq C 23 dX0_heldSlots_16 rfl (fun c4 => ?_) (fun c4 => ?_)
      · replace h := if_t h c4
        refine g_iconst C (n := 0) dX0_heldSlots_23 (by decide) ?_
        refine g_sub [0, 2] rfl rfl ?_
        exact tX0_heldSlots_24 C hr hlk hC _ H_4 _ _ _ _ _ T0 h
      · replace h := if_f h c4
        refine g_iconst C (n := 1) dX0_heldSlots_19 (by decide) ?_
        refine g_goto C 24 dX0_heldSlots_20 rfl ?_
        refine g_sub [0, 2] rfl rfl ?_
        exact tX0_heldSlots_24 C hr hlk hC _ H_4 _ _ _ _ _ T0 h
end
theorem cX0_heldSlots_ok (l : Launch) {E : En_} {sz : Int} (hC : Cl_ E.2.2.2.2.2 sz) {x0 : Int} {v : V_} {out : Int × V_} (T0 : (E.2.2.2.2.2 x0 ∧ ty_ x0 = 0 ∧ ln_ x0 = 0)) (h : fX0_heldSlots x0 v = some out) : Met l yX0_heldSlots [.code yX0_heldSlots cX0_heldSlots 3 (some FieldType.int)] (rm_ 0 0) (Pc_ E sz v [(2, x0)]) (Qc_ E sz 0 out.1 out.2) 0 0 (fun q => E.1 < q) := by
  refine met_G0 RX0 (by decide +kernel) rfl (Nat.le_of_ble_eq_true rfl) ?_
  intro p e s m args below meth c C hr hlk
  rw [fX0_heldSlots] at h
  refine g_iconst C (n := 0) dX0_heldSlots_0 (by decide) ?_
  refine g_istore_n C (f := 1) (ls' := [(1, (0, 0)), (0, (2, x0))]) dX0_heldSlots_1 (by decide) rfl ?_
  refine g_iconst C (n := 0) dX0_heldSlots_2 (by decide) ?_
  refine g_istore_n C (f := 2) (ls' := [(2, (0, 0)), (1, (0, 0)), (0, (2, x0))]) dX0_heldSlots_3 (by decide) rfl ?_
  refine g_sub [2, 1, 0] rfl rfl ?_
  exact tX0_heldSlots_4 C hr hlk hC _ _ _ _ _ T0 h
theorem dX0_holds_0 : decode cX0_holds 0 = .ok (.aload_n 0, 1) := by decide +kernel
theorem dX0_holds_1 : decode cX0_holds 1 = .ok (.getfield 21, 3) := by decide +kernel
theorem dX0_holds_4 : decode cX0_holds 4 = .ok (.iload_n 1, 1) := by decide +kernel
theorem dX0_holds_5 : decode cX0_holds 5 = .ok (.baload, 1) := by decide +kernel
theorem dX0_holds_6 : decode cX0_holds 6 = .ok (.ireturn, 1) := by decide +kernel
def fX0_holds (x0 x1 : Int) (v : V_) : Option (Int × V_) :=
  ck_ (0 ≤ x1 ∧ x1 < 3) (
  ck_ (v (x0 + 46) x1 = 0 ∨ v (x0 + 46) x1 = 1) (
  some (v (x0 + 46) x1, v)))
theorem cX0_holds_ok (l : Launch) {E : En_} {sz : Int} (hC : Cl_ E.2.2.2.2.2 sz) {x0 x1 : Int} {v : V_} {out : Int × V_} (T0 : (E.2.2.2.2.2 x0 ∧ ty_ x0 = 0 ∧ ln_ x0 = 0)) (h : fX0_holds x0 x1 v = some out) : Met l yX0_holds [.code yX0_holds cX0_holds 2 (some FieldType.boolean)] (rm_ 0 0) (Pc_ E sz v [(2, x0), (0, x1)]) (Qc_ E sz 0 out.1 out.2) 0 0 (fun q => E.1 < q) := by
  refine met_G0 RX0 (by decide +kernel) rfl (Nat.le_of_ble_eq_true rfl) ?_
  intro p e s m args below meth c C hr hlk
  rw [fX0_holds] at h
  refine g_aload_n C (f := 0) dX0_holds_0 0 rfl ?_
  have F1 := fX0_2 hC T0.1 T0.2.1
  refine g_getR C (k := 2) (o := 46) okX0 (by decide) kf_RX0_21 dX0_holds_1 hC T0.1 T0.2.1 rfl rfl ?_
  refine g_iload_n C (f := 1) dX0_holds_4 1 rfl ?_
  obtain ⟨c2, h⟩ := ck_e h
  refine g_zald C 3 dX0_holds_5 (rg_ hC F1.1) F1.2.1 F1.2.2 c2 ?_
  obtain ⟨c3, h⟩ := ck_e h
  cases h
  exact g_zret C dX0_holds_6 hr hlk c3
theorem dX0_keep_0 : decode cX0_keep 0 = .ok (.aload_n 2, 1) := by decide +kernel
theorem dX0_keep_1 : decode cX0_keep 1 = .ok (.getfield 29, 3) := by decide +kernel
theorem dX0_keep_4 : decode cX0_keep 4 = .ok (.iconst 0, 1) := by decide +kernel
theorem dX0_keep_5 : decode cX0_keep 5 = .ok (.aload_n 0, 1) := by decide +kernel
theorem dX0_keep_6 : decode cX0_keep 6 = .ok (.getfield 18, 3) := by decide +kernel
theorem dX0_keep_9 : decode cX0_keep 9 = .ok (.iload_n 1, 1) := by decide +kernel
theorem dX0_keep_10 : decode cX0_keep 10 = .ok (.aaload, 1) := by decide +kernel
theorem dX0_keep_11 : decode cX0_keep 11 = .ok (.iconst 0, 1) := by decide +kernel
theorem dX0_keep_12 : decode cX0_keep 12 = .ok (.bipush 47, 2) := by decide +kernel
theorem dX0_keep_14 : decode cX0_keep 14 = .ok (.invokestatic 33, 3) := by decide +kernel
theorem dX0_keep_17 : decode cX0_keep 17 = .ok (.aload_n 0, 1) := by decide +kernel
theorem dX0_keep_18 : decode cX0_keep 18 = .ok (.getfield 21, 3) := by decide +kernel
theorem dX0_keep_21 : decode cX0_keep 21 = .ok (.iload_n 1, 1) := by decide +kernel
theorem dX0_keep_22 : decode cX0_keep 22 = .ok (.iconst 1, 1) := by decide +kernel
theorem dX0_keep_23 : decode cX0_keep 23 = .ok (.bastore, 1) := by decide +kernel
theorem dX0_keep_24 : decode cX0_keep 24 = .ok (.return_, 1) := by decide +kernel
def fX0_keep (x0 x1 x2 : Int) (v : V_) : Option (Int × V_) :=
  ck_ (0 ≤ x1 ∧ x1 < 3) (
  lt_ (cp_ v (x2 + 1) 0 ((x0 + 42) + (1 + 1 * x1)) 0 47) fun v5 =>
  ck_ (0 ≤ x1 ∧ x1 < 3) (
  lt_ (up_ v5 (x0 + 46) x1 1) fun v8 =>
  some (0, v8)))
theorem cX0_keep_ok (l : Launch) {E : En_} {sz : Int} (hC : Cl_ E.2.2.2.2.2 sz) {x0 x1 x2 : Int} {v : V_} {out : Int × V_} (T0 : (E.2.2.2.2.2 x0 ∧ ty_ x0 = 0 ∧ ln_ x0 = 0)) (T2 : (E.2.2.2.2.2 x2 ∧ ty_ x2 = 7 ∧ ln_ x2 = 0)) (h : fX0_keep x0 x1 x2 v = some out) : Met l yX0_keep [.code yX0_keep cX0_keep 3 (none : Option FieldType)] (rm_ 1 26) (Pc_ E sz v [(2, x0), (0, x1), (2, x2)]) (Qc_ E sz 9 out.1 out.2) 0 0 (fun q => E.1 < q) := by
  refine met_G0 RX0 (by decide +kernel) rfl (Nat.le_of_ble_eq_true rfl) ?_
  intro p e s m args below meth c C hr hlk
  rw [fX0_keep] at h
  refine g_aload_n C (f := 2) dX0_keep_0 2 rfl ?_
  have F1 := fX7_0 hC T2.1 T2.2.1
  refine g_getR C (k := 0) (o := 1) okX7 (by decide) kf_RX0_29 dX0_keep_1 hC T2.1 T2.2.1 rfl rfl ?_
  refine g_iconst C (n := 0) dX0_keep_4 (by decide) ?_
  refine g_aload_n C (f := 0) dX0_keep_5 0 rfl ?_
  have F2 := fX0_1 hC T0.1 T0.2.1
  refine g_getR C (k := 1) (o := 42) okX0 (by decide) kf_RX0_18 dX0_keep_6 hC T0.1 T0.2.1 rfl rfl ?_
  refine g_iload_n C (f := 1) dX0_keep_9 1 rfl ?_
  obtain ⟨c3, h⟩ := ck_e h
  have F4 := fE_slots (i := x1) hC F2.1 F2.2.1 F2.2.2 c3
  refine g_aald C 24 3 1 1 dX0_keep_10 hC F2.1 F2.2.1 F2.2.2 c3 (by decide) oA_slots ?_
  refine g_iconst C (n := 0) dX0_keep_11 (by decide) ?_
  refine g_bipush C (n := 47) dX0_keep_12 (by decide) ?_
  obtain ⟨v5, ev5, h⟩ := lt_e h
  refine g_copy C km_RX0_33 47 47 dX0_keep_14 (rg_ hC F1.1) F1.2.1 F1.2.2 (rg_ hC F4.1) F4.2.1 F4.2.2 (by decide) ⟨Nat.le_of_ble_eq_true rfl, Nat.le_of_ble_eq_true rfl⟩ v5 ev5 ?_
  refine g_aload_n C (f := 0) dX0_keep_17 0 rfl ?_
  have F6 := fX0_2 hC T0.1 T0.2.1
  refine g_getR C (k := 2) (o := 46) okX0 (by decide) kf_RX0_21 dX0_keep_18 hC T0.1 T0.2.1 rfl rfl ?_
  refine g_iload_n C (f := 1) dX0_keep_21 1 rfl ?_
  refine g_iconst C (n := 1) dX0_keep_22 (by decide) ?_
  obtain ⟨c7, h⟩ := ck_e h
  obtain ⟨v8, ev8, h⟩ := lt_e h
  refine g_zast C 3 dX0_keep_23 (rg_ hC F6.1) F6.2.1 F6.2.2 c7 (Or.inr rfl) v8 ev8 ?_
  cases h
  exact g_vret C dX0_keep_24 hr hlk
theorem dX0_note_0 : decode cX0_note 0 = .ok (.aload_n 0, 1) := by decide +kernel
theorem dX0_note_1 : decode cX0_note 1 = .ok (.aload_n 0, 1) := by decide +kernel
theorem dX0_note_2 : decode cX0_note 2 = .ok (.getfield 25, 3) := by decide +kernel
theorem dX0_note_5 : decode cX0_note 5 = .ok (.iconst 1, 1) := by decide +kernel
theorem dX0_note_6 : decode cX0_note 6 = .ok (.iadd, 1) := by decide +kernel
theorem dX0_note_7 : decode cX0_note 7 = .ok (.bipush 40, 2) := by decide +kernel
theorem dX0_note_9 : decode cX0_note 9 = .ok (.irem, 1) := by decide +kernel
theorem dX0_note_10 : decode cX0_note 10 = .ok (.putfield 25, 3) := by decide +kernel
theorem dX0_note_13 : decode cX0_note 13 = .ok (.aload_n 1, 1) := by decide +kernel
theorem dX0_note_14 : decode cX0_note 14 = .ok (.getfield 29, 3) := by decide +kernel
theorem dX0_note_17 : decode cX0_note 17 = .ok (.iconst 0, 1) := by decide +kernel
theorem dX0_note_18 : decode cX0_note 18 = .ok (.aload_n 0, 1) := by decide +kernel
theorem dX0_note_19 : decode cX0_note 19 = .ok (.getfield 13, 3) := by decide +kernel
theorem dX0_note_22 : decode cX0_note 22 = .ok (.aload_n 0, 1) := by decide +kernel
theorem dX0_note_23 : decode cX0_note 23 = .ok (.getfield 25, 3) := by decide +kernel
theorem dX0_note_26 : decode cX0_note 26 = .ok (.aaload, 1) := by decide +kernel
theorem dX0_note_27 : decode cX0_note 27 = .ok (.iconst 0, 1) := by decide +kernel
theorem dX0_note_28 : decode cX0_note 28 = .ok (.bipush 47, 2) := by decide +kernel
theorem dX0_note_30 : decode cX0_note 30 = .ok (.invokestatic 33, 3) := by decide +kernel
theorem dX0_note_33 : decode cX0_note 33 = .ok (.aload_n 0, 1) := by decide +kernel
theorem dX0_note_34 : decode cX0_note 34 = .ok (.bipush 40, 2) := by decide +kernel
theorem dX0_note_36 : decode cX0_note 36 = .ok (.aload_n 0, 1) := by decide +kernel
theorem dX0_note_37 : decode cX0_note 37 = .ok (.getfield 39, 3) := by decide +kernel
theorem dX0_note_40 : decode cX0_note 40 = .ok (.iconst 1, 1) := by decide +kernel
theorem dX0_note_41 : decode cX0_note 41 = .ok (.iadd, 1) := by decide +kernel
theorem dX0_note_42 : decode cX0_note 42 = .ok (.invokestatic 42, 3) := by decide +kernel
theorem dX0_note_45 : decode cX0_note 45 = .ok (.putfield 39, 3) := by decide +kernel
theorem dX0_note_48 : decode cX0_note 48 = .ok (.return_, 1) := by decide +kernel
def fX0_note (x0 x1 : Int) (v : V_) : Option (Int × V_) :=
  lt_ (up_ v x0 3 (Int.tmod (wr_ ((v x0 3) + 1)) 40)) fun v1 =>
  ck_ (0 ≤ v1 x0 3 ∧ v1 x0 3 < 40) (
  lt_ (cp_ v1 (x1 + 1) 0 ((x0 + 1) + (1 + 1 * (v1 x0 3))) 0 47) fun v6 =>
  lt_ (up_ v6 x0 4 (mn_ 40 (wr_ ((v6 x0 4) + 1)))) fun v7 =>
  some (0, v7))
theorem cX0_note_ok (l : Launch) {E : En_} {sz : Int} (hC : Cl_ E.2.2.2.2.2 sz) {x0 x1 : Int} {v : V_} {out : Int × V_} (T0 : (E.2.2.2.2.2 x0 ∧ ty_ x0 = 0 ∧ ln_ x0 = 0)) (T1 : (E.2.2.2.2.2 x1 ∧ ty_ x1 = 7 ∧ ln_ x1 = 0)) (h : fX0_note x0 x1 v = some out) : Met l yX0_note [.code yX0_note cX0_note 2 (none : Option FieldType)] (rm_ 1 26) (Pc_ E sz v [(2, x0), (2, x1)]) (Qc_ E sz 9 out.1 out.2) 0 0 (fun q => E.1 < q) := by
  refine met_G0 RX0 (by decide +kernel) rfl (Nat.le_of_ble_eq_true rfl) ?_
  intro p e s m args below meth c C hr hlk
  rw [fX0_note] at h
  refine g_aload_n C (f := 0) dX0_note_0 0 rfl ?_
  refine g_aload_n C (f := 0) dX0_note_1 0 rfl ?_
  refine g_getf C (k := 3) (kd := 0) okX0 (by decide) kf_RX0_25 dX0_note_2 (rg_ hC T0.1) T0.2.1 rfl ?_
  refine g_iconst C (n := 1) dX0_note_5 (by decide) ?_
  refine g_iadd C dX0_note_6 ?_
  refine g_bipush C (n := 40) dX0_note_7 (by decide) ?_
  refine g_irem C dX0_note_9 (by decide) ?_
  obtain ⟨v1, ev1, h⟩ := lt_e h
  refine g_putf C (k := 3) (kd := 0) okX0 (by decide) kf_RX0_25 dX0_note_10 (rg_ hC T0.1) T0.2.1 rfl rfl nvI (Or.inl rfl) v1 ev1 ?_
  refine g_aload_n C (f := 1) dX0_note_13 1 rfl ?_
  have F2 := fX7_0 hC T1.1 T1.2.1
  refine g_getR C (k := 0) (o := 1) okX7 (by decide) kf_RX0_29 dX0_note_14 hC T1.1 T1.2.1 rfl rfl ?_
  refine g_iconst C (n := 0) dX0_note_17 (by decide) ?_
  refine g_aload_n C (f := 0) dX0_note_18 0 rfl ?_
  have F3 := fX0_0 hC T0.1 T0.2.1
  refine g_getR C (k := 0) (o := 1) okX0 (by decide) kf_RX0_13 dX0_note_19 hC T0.1 T0.2.1 rfl rfl ?_
  refine g_aload_n C (f := 0) dX0_note_22 0 rfl ?_
  refine g_getf C (k := 3) (kd := 0) okX0 (by decide) kf_RX0_25 dX0_note_23 (rg_ hC T0.1) T0.2.1 rfl ?_
  obtain ⟨c4, h⟩ := ck_e h
  have F5 := fE_ring (i := v1 x0 3) hC F3.1 F3.2.1 F3.2.2 c4
  refine g_aald C 24 40 1 1 dX0_note_26 hC F3.1 F3.2.1 F3.2.2 c4 (by decide) oA_ring ?_
  refine g_iconst C (n := 0) dX0_note_27 (by decide) ?_
  refine g_bipush C (n := 47) dX0_note_28 (by decide) ?_
  obtain ⟨v6, ev6, h⟩ := lt_e h
  refine g_copy C km_RX0_33 47 47 dX0_note_30 (rg_ hC F2.1) F2.2.1 F2.2.2 (rg_ hC F5.1) F5.2.1 F5.2.2 (by decide) ⟨Nat.le_of_ble_eq_true rfl, Nat.le_of_ble_eq_true rfl⟩ v6 ev6 ?_
  refine g_aload_n C (f := 0) dX0_note_33 0 rfl ?_
  refine g_bipush C (n := 40) dX0_note_34 (by decide) ?_
  refine g_aload_n C (f := 0) dX0_note_36 0 rfl ?_
  refine g_getf C (k := 4) (kd := 0) okX0 (by decide) kf_RX0_39 dX0_note_37 (rg_ hC T0.1) T0.2.1 rfl ?_
  refine g_iconst C (n := 1) dX0_note_40 (by decide) ?_
  refine g_iadd C dX0_note_41 ?_
  refine g_min0 C km_RX0_42 dX0_note_42 ⟨Nat.le_of_ble_eq_true rfl, Nat.le_of_ble_eq_true rfl⟩ ?_
  obtain ⟨v7, ev7, h⟩ := lt_e h
  refine g_putf C (k := 4) (kd := 0) okX0 (by decide) kf_RX0_39 dX0_note_45 (rg_ hC T0.1) T0.2.1 rfl rfl nvI (Or.inl rfl) v7 ev7 ?_
  cases h
  exact g_vret C dX0_note_48 hr hlk
theorem dX0_takeBack_0 : decode cX0_takeBack 0 = .ok (.aload_n 0, 1) := by decide +kernel
theorem dX0_takeBack_1 : decode cX0_takeBack 1 = .ok (.getfield 39, 3) := by decide +kernel
theorem dX0_takeBack_4 : decode cX0_takeBack 4 = .ok (.ifCond .ne 5, 3) := by decide +kernel
theorem dX0_takeBack_7 : decode cX0_takeBack 7 = .ok (.iconst 0, 1) := by decide +kernel
theorem dX0_takeBack_8 : decode cX0_takeBack 8 = .ok (.ireturn, 1) := by decide +kernel
theorem dX0_takeBack_9 : decode cX0_takeBack 9 = .ok (.aload_n 0, 1) := by decide +kernel
theorem dX0_takeBack_10 : decode cX0_takeBack 10 = .ok (.getfield 13, 3) := by decide +kernel
theorem dX0_takeBack_13 : decode cX0_takeBack 13 = .ok (.aload_n 0, 1) := by decide +kernel
theorem dX0_takeBack_14 : decode cX0_takeBack 14 = .ok (.getfield 25, 3) := by decide +kernel
theorem dX0_takeBack_17 : decode cX0_takeBack 17 = .ok (.aaload, 1) := by decide +kernel
theorem dX0_takeBack_18 : decode cX0_takeBack 18 = .ok (.iconst 0, 1) := by decide +kernel
theorem dX0_takeBack_19 : decode cX0_takeBack 19 = .ok (.aload_n 1, 1) := by decide +kernel
theorem dX0_takeBack_20 : decode cX0_takeBack 20 = .ok (.getfield 29, 3) := by decide +kernel
theorem dX0_takeBack_23 : decode cX0_takeBack 23 = .ok (.iconst 0, 1) := by decide +kernel
theorem dX0_takeBack_24 : decode cX0_takeBack 24 = .ok (.bipush 47, 2) := by decide +kernel
theorem dX0_takeBack_26 : decode cX0_takeBack 26 = .ok (.invokestatic 33, 3) := by decide +kernel
theorem dX0_takeBack_29 : decode cX0_takeBack 29 = .ok (.aload_n 0, 1) := by decide +kernel
theorem dX0_takeBack_30 : decode cX0_takeBack 30 = .ok (.aload_n 0, 1) := by decide +kernel
theorem dX0_takeBack_31 : decode cX0_takeBack 31 = .ok (.getfield 25, 3) := by decide +kernel
theorem dX0_takeBack_34 : decode cX0_takeBack 34 = .ok (.bipush 40, 2) := by decide +kernel
theorem dX0_takeBack_36 : decode cX0_takeBack 36 = .ok (.iadd, 1) := by decide +kernel
theorem dX0_takeBack_37 : decode cX0_takeBack 37 = .ok (.iconst 1, 1) := by decide +kernel
theorem dX0_takeBack_38 : decode cX0_takeBack 38 = .ok (.isub, 1) := by decide +kernel
theorem dX0_takeBack_39 : decode cX0_takeBack 39 = .ok (.bipush 40, 2) := by decide +kernel
theorem dX0_takeBack_41 : decode cX0_takeBack 41 = .ok (.irem, 1) := by decide +kernel
theorem dX0_takeBack_42 : decode cX0_takeBack 42 = .ok (.putfield 25, 3) := by decide +kernel
theorem dX0_takeBack_45 : decode cX0_takeBack 45 = .ok (.aload_n 0, 1) := by decide +kernel
theorem dX0_takeBack_46 : decode cX0_takeBack 46 = .ok (.dup, 1) := by decide +kernel
theorem dX0_takeBack_47 : decode cX0_takeBack 47 = .ok (.getfield 39, 3) := by decide +kernel
theorem dX0_takeBack_50 : decode cX0_takeBack 50 = .ok (.iconst 1, 1) := by decide +kernel
theorem dX0_takeBack_51 : decode cX0_takeBack 51 = .ok (.isub, 1) := by decide +kernel
theorem dX0_takeBack_52 : decode cX0_takeBack 52 = .ok (.putfield 39, 3) := by decide +kernel
theorem dX0_takeBack_55 : decode cX0_takeBack 55 = .ok (.iconst 1, 1) := by decide +kernel
theorem dX0_takeBack_56 : decode cX0_takeBack 56 = .ok (.ireturn, 1) := by decide +kernel
def fX0_takeBack (x0 x1 : Int) (v : V_) : Option (Int × V_) :=
  if (v x0 4) = 0 then (
    some (0, v))
  else (
    ck_ (0 ≤ v x0 3 ∧ v x0 3 < 40) (
    lt_ (cp_ v ((x0 + 1) + (1 + 1 * (v x0 3))) 0 (x1 + 1) 0 47) fun v6 =>
    lt_ (up_ v6 x0 3 (Int.tmod (wr_ ((wr_ ((v6 x0 3) + 40)) - 1)) 40)) fun v7 =>
    lt_ (up_ v7 x0 4 (wr_ ((v7 x0 4) - 1))) fun v8 =>
    some (1, v8)))
theorem cX0_takeBack_ok (l : Launch) {E : En_} {sz : Int} (hC : Cl_ E.2.2.2.2.2 sz) {x0 x1 : Int} {v : V_} {out : Int × V_} (T0 : (E.2.2.2.2.2 x0 ∧ ty_ x0 = 0 ∧ ln_ x0 = 0)) (T1 : (E.2.2.2.2.2 x1 ∧ ty_ x1 = 7 ∧ ln_ x1 = 0)) (h : fX0_takeBack x0 x1 v = some out) : Met l yX0_takeBack [.code yX0_takeBack cX0_takeBack 2 (some FieldType.boolean)] (rm_ 1 26) (Pc_ E sz v [(2, x0), (2, x1)]) (Qc_ E sz 0 out.1 out.2) 0 0 (fun q => E.1 < q) := by
  refine met_G0 RX0 (by decide +kernel) rfl (Nat.le_of_ble_eq_true rfl) ?_
  intro p e s m args below meth c C hr hlk
  rw [fX0_takeBack] at h
  refine g_aload_n C (f := 0) dX0_takeBack_0 0 rfl ?_
  refine g_getf C (k := 4) (kd := 0) okX0 (by decide) kf_RX0_39 dX0_takeBack_1 (rg_ hC T0.1) T0.2.1 rfl ?_
  refine g_if_ne C 9 dX0_takeBack_4 rfl (fun c1 => ?_) (fun c1 => ?_)
  · replace h := if_f h c1
    refine g_aload_n C (f := 0) dX0_takeBack_9 0 rfl ?_
    have F2 := fX0_0 hC T0.1 T0.2.1
    refine g_getR C (k := 0) (o := 1) okX0 (by decide) kf_RX0_13 dX0_takeBack_10 hC T0.1 T0.2.1 rfl rfl ?_
    refine g_aload_n C (f := 0) dX0_takeBack_13 0 rfl ?_
    refine g_getf C (k := 3) (kd := 0) okX0 (by decide) kf_RX0_25 dX0_takeBack_14 (rg_ hC T0.1) T0.2.1 rfl ?_
    obtain ⟨c3, h⟩ := ck_e h
    have F4 := fE_ring (i := v x0 3) hC F2.1 F2.2.1 F2.2.2 c3
    refine g_aald C 24 40 1 1 dX0_takeBack_17 hC F2.1 F2.2.1 F2.2.2 c3 (by decide) oA_ring ?_
    refine g_iconst C (n := 0) dX0_takeBack_18 (by decide) ?_
    refine g_aload_n C (f := 1) dX0_takeBack_19 1 rfl ?_
    have F5 := fX7_0 hC T1.1 T1.2.1
    refine g_getR C (k := 0) (o := 1) okX7 (by decide) kf_RX0_29 dX0_takeBack_20 hC T1.1 T1.2.1 rfl rfl ?_
    refine g_iconst C (n := 0) dX0_takeBack_23 (by decide) ?_
    refine g_bipush C (n := 47) dX0_takeBack_24 (by decide) ?_
    obtain ⟨v6, ev6, h⟩ := lt_e h
    refine g_copy C km_RX0_33 47 47 dX0_takeBack_26 (rg_ hC F4.1) F4.2.1 F4.2.2 (rg_ hC F5.1) F5.2.1 F5.2.2 (by decide) ⟨Nat.le_of_ble_eq_true rfl, Nat.le_of_ble_eq_true rfl⟩ v6 ev6 ?_
    refine g_aload_n C (f := 0) dX0_takeBack_29 0 rfl ?_
    refine g_aload_n C (f := 0) dX0_takeBack_30 0 rfl ?_
    refine g_getf C (k := 3) (kd := 0) okX0 (by decide) kf_RX0_25 dX0_takeBack_31 (rg_ hC T0.1) T0.2.1 rfl ?_
    refine g_bipush C (n := 40) dX0_takeBack_34 (by decide) ?_
    refine g_iadd C dX0_takeBack_36 ?_
    refine g_iconst C (n := 1) dX0_takeBack_37 (by decide) ?_
    refine g_isub C dX0_takeBack_38 ?_
    refine g_bipush C (n := 40) dX0_takeBack_39 (by decide) ?_
    refine g_irem C dX0_takeBack_41 (by decide) ?_
    obtain ⟨v7, ev7, h⟩ := lt_e h
    refine g_putf C (k := 3) (kd := 0) okX0 (by decide) kf_RX0_25 dX0_takeBack_42 (rg_ hC T0.1) T0.2.1 rfl rfl nvI (Or.inl rfl) v7 ev7 ?_
    refine g_aload_n C (f := 0) dX0_takeBack_45 0 rfl ?_
    refine g_dup C (Nat.ne_of_beq_eq_false rfl) dX0_takeBack_46 ?_
    refine g_getf C (k := 4) (kd := 0) okX0 (by decide) kf_RX0_39 dX0_takeBack_47 (rg_ hC T0.1) T0.2.1 rfl ?_
    refine g_iconst C (n := 1) dX0_takeBack_50 (by decide) ?_
    refine g_isub C dX0_takeBack_51 ?_
    obtain ⟨v8, ev8, h⟩ := lt_e h
    refine g_putf C (k := 4) (kd := 0) okX0 (by decide) kf_RX0_39 dX0_takeBack_52 (rg_ hC T0.1) T0.2.1 rfl rfl nvI (Or.inl rfl) v8 ev8 ?_
    refine g_iconst C (n := 1) dX0_takeBack_55 (by decide) ?_
    cases h
    exact g_zret C dX0_takeBack_56 hr hlk (Or.inr rfl)
  · replace h := if_t h c1
    refine g_iconst C (n := 0) dX0_takeBack_7 (by decide) ?_
    cases h
    exact g_zret C dX0_takeBack_8 hr hlk (Or.inl rfl)
theorem dX1_begin_0 : decode cX1_begin 0 = .ok (.aload_n 0, 1) := by decide +kernel
theorem dX1_begin_1 : decode cX1_begin 1 = .ok (.iload_n 1, 1) := by decide +kernel
theorem dX1_begin_2 : decode cX1_begin 2 = .ok (.putfield 18, 3) := by decide +kernel
theorem dX1_begin_5 : decode cX1_begin 5 = .ok (.aload_n 0, 1) := by decide +kernel
theorem dX1_begin_6 : decode cX1_begin 6 = .ok (.iload_n 2, 1) := by decide +kernel
theorem dX1_begin_7 : decode cX1_begin 7 = .ok (.putfield 22, 3) := by decide +kernel
theorem dX1_begin_10 : decode cX1_begin 10 = .ok (.aload_n 0, 1) := by decide +kernel
theorem dX1_begin_11 : decode cX1_begin 11 = .ok (.iload_n 3, 1) := by decide +kernel
theorem dX1_begin_12 : decode cX1_begin 12 = .ok (.putfield 25, 3) := by decide +kernel
theorem dX1_begin_15 : decode cX1_begin 15 = .ok (.aload_n 0, 1) := by decide +kernel
theorem dX1_begin_16 : decode cX1_begin 16 = .ok (.bipush (-2), 2) := by decide +kernel
theorem dX1_begin_18 : decode cX1_begin 18 = .ok (.putfield 28, 3) := by decide +kernel
theorem dX1_begin_21 : decode cX1_begin 21 = .ok (.aload_n 0, 1) := by decide +kernel
theorem dX1_begin_22 : decode cX1_begin 22 = .ok (.bipush (-2), 2) := by decide +kernel
theorem dX1_begin_24 : decode cX1_begin 24 = .ok (.putfield 31, 3) := by decide +kernel
theorem dX1_begin_27 : decode cX1_begin 27 = .ok (.aload_n 0, 1) := by decide +kernel
theorem dX1_begin_28 : decode cX1_begin 28 = .ok (.iconst 0, 1) := by decide +kernel
theorem dX1_begin_29 : decode cX1_begin 29 = .ok (.putfield 34, 3) := by decide +kernel
theorem dX1_begin_32 : decode cX1_begin 32 = .ok (.aload_n 0, 1) := by decide +kernel
theorem dX1_begin_33 : decode cX1_begin 33 = .ok (.iconst 0, 1) := by decide +kernel
theorem dX1_begin_34 : decode cX1_begin 34 = .ok (.putfield 37, 3) := by decide +kernel
theorem dX1_begin_37 : decode cX1_begin 37 = .ok (.aload_n 0, 1) := by decide +kernel
theorem dX1_begin_38 : decode cX1_begin 38 = .ok (.iconst 0, 1) := by decide +kernel
theorem dX1_begin_39 : decode cX1_begin 39 = .ok (.putfield 40, 3) := by decide +kernel
theorem dX1_begin_42 : decode cX1_begin 42 = .ok (.aload_n 0, 1) := by decide +kernel
theorem dX1_begin_43 : decode cX1_begin 43 = .ok (.iconst 0, 1) := by decide +kernel
theorem dX1_begin_44 : decode cX1_begin 44 = .ok (.putfield 43, 3) := by decide +kernel
theorem dX1_begin_47 : decode cX1_begin 47 = .ok (.return_, 1) := by decide +kernel
def fX1_begin (x0 x1 x2 x3 : Int) (v : V_) : Option (Int × V_) :=
  lt_ (up_ v x0 1 x1) fun v1 =>
  lt_ (up_ v1 x0 2 x2) fun v2 =>
  lt_ (up_ v2 x0 6 x3) fun v3 =>
  lt_ (up_ v3 x0 4 (-2)) fun v4 =>
  lt_ (up_ v4 x0 5 (-2)) fun v5 =>
  lt_ (up_ v5 x0 7 0) fun v6 =>
  lt_ (up_ v6 x0 8 0) fun v7 =>
  lt_ (up_ v7 x0 9 0) fun v8 =>
  lt_ (up_ v8 x0 10 0) fun v9 =>
  some (0, v9)
theorem cX1_begin_ok (l : Launch) {E : En_} {sz : Int} (hC : Cl_ E.2.2.2.2.2 sz) {x0 x1 x2 x3 : Int} {v : V_} {out : Int × V_} (T0 : (E.2.2.2.2.2 x0 ∧ ty_ x0 = 1 ∧ ln_ x0 = 0)) (h : fX1_begin x0 x1 x2 x3 v = some out) : Met l yX1_begin [.code yX1_begin cX1_begin 4 (none : Option FieldType)] (rm_ 0 0) (Pc_ E sz v [(2, x0), (0, x1), (0, x2), (0, x3)]) (Qc_ E sz 9 out.1 out.2) 0 0 (fun q => E.1 < q) := by
  refine met_G0 RX1 (by decide +kernel) rfl (Nat.le_of_ble_eq_true rfl) ?_
  intro p e s m args below meth c C hr hlk
  rw [fX1_begin] at h
  refine g_aload_n C (f := 0) dX1_begin_0 0 rfl ?_
  refine g_iload_n C (f := 1) dX1_begin_1 1 rfl ?_
  obtain ⟨v1, ev1, h⟩ := lt_e h
  refine g_putf C (k := 1) (kd := 0) okX1 (by decide) kf_RX1_18 dX1_begin_2 (rg_ hC T0.1) T0.2.1 rfl rfl nvI (Or.inl rfl) v1 ev1 ?_
  refine g_aload_n C (f := 0) dX1_begin_5 0 rfl ?_
  refine g_iload_n C (f := 2) dX1_begin_6 2 rfl ?_
  obtain ⟨v2, ev2, h⟩ := lt_e h
  refine g_putf C (k := 2) (kd := 0) okX1 (by decide) kf_RX1_22 dX1_begin_7 (rg_ hC T0.1) T0.2.1 rfl rfl nvI (Or.inl rfl) v2 ev2 ?_
  refine g_aload_n C (f := 0) dX1_begin_10 0 rfl ?_
  refine g_iload_n C (f := 3) dX1_begin_11 3 rfl ?_
  obtain ⟨v3, ev3, h⟩ := lt_e h
  refine g_putf C (k := 6) (kd := 0) okX1 (by decide) kf_RX1_25 dX1_begin_12 (rg_ hC T0.1) T0.2.1 rfl rfl nvI (Or.inl rfl) v3 ev3 ?_
  refine g_aload_n C (f := 0) dX1_begin_15 0 rfl ?_
  refine g_bipush C (n := (-2)) dX1_begin_16 (by decide) ?_
  obtain ⟨v4, ev4, h⟩ := lt_e h
  refine g_putf C (k := 4) (kd := 0) okX1 (by decide) kf_RX1_28 dX1_begin_18 (rg_ hC T0.1) T0.2.1 rfl rfl nvI (Or.inl rfl) v4 ev4 ?_
  refine g_aload_n C (f := 0) dX1_begin_21 0 rfl ?_
  refine g_bipush C (n := (-2)) dX1_begin_22 (by decide) ?_
  obtain ⟨v5, ev5, h⟩ := lt_e h
  refine g_putf C (k := 5) (kd := 0) okX1 (by decide) kf_RX1_31 dX1_begin_24 (rg_ hC T0.1) T0.2.1 rfl rfl nvI (Or.inl rfl) v5 ev5 ?_
  refine g_aload_n C (f := 0) dX1_begin_27 0 rfl ?_
  refine g_iconst C (n := 0) dX1_begin_28 (by decide) ?_
  obtain ⟨v6, ev6, h⟩ := lt_e h
  refine g_putf C (k := 7) (kd := 0) okX1 (by decide) kf_RX1_34 dX1_begin_29 (rg_ hC T0.1) T0.2.1 rfl rfl nvI (Or.inl rfl) v6 ev6 ?_
  refine g_aload_n C (f := 0) dX1_begin_32 0 rfl ?_
  refine g_iconst C (n := 0) dX1_begin_33 (by decide) ?_
  obtain ⟨v7, ev7, h⟩ := lt_e h
  refine g_putf C (k := 8) (kd := 0) okX1 (by decide) kf_RX1_37 dX1_begin_34 (rg_ hC T0.1) T0.2.1 rfl rfl nvI (Or.inl rfl) v7 ev7 ?_
  refine g_aload_n C (f := 0) dX1_begin_37 0 rfl ?_
  refine g_iconst C (n := 0) dX1_begin_38 (by decide) ?_
  obtain ⟨v8, ev8, h⟩ := lt_e h
  refine g_putf C (k := 9) (kd := 0) okX1 (by decide) kf_RX1_40 dX1_begin_39 (rg_ hC T0.1) T0.2.1 rfl rfl nvI (Or.inl rfl) v8 ev8 ?_
  refine g_aload_n C (f := 0) dX1_begin_42 0 rfl ?_
  refine g_iconst C (n := 0) dX1_begin_43 (by decide) ?_
  obtain ⟨v9, ev9, h⟩ := lt_e h
  refine g_putf C (k := 10) (kd := 0) okX1 (by decide) kf_RX1_43 dX1_begin_44 (rg_ hC T0.1) T0.2.1 rfl rfl (nvZ (Or.inl rfl)) (Or.inl rfl) v9 ev9 ?_
  cases h
  exact g_vret C dX1_begin_47 hr hlk
theorem dX1_does_0 : decode cX1_does 0 = .ok (.aload_n 0, 1) := by decide +kernel
theorem dX1_does_1 : decode cX1_does 1 = .ok (.getfield 12, 3) := by decide +kernel
theorem dX1_does_4 : decode cX1_does 4 = .ok (.getfield 47, 3) := by decide +kernel
theorem dX1_does_7 : decode cX1_does 7 = .ok (.iload_n 1, 1) := by decide +kernel
theorem dX1_does_8 : decode cX1_does 8 = .ok (.if_icmp .ne 7, 3) := by decide +kernel
theorem dX1_does_11 : decode cX1_does 11 = .ok (.iconst 1, 1) := by decide +kernel
theorem dX1_does_12 : decode cX1_does 12 = .ok (.goto 4, 3) := by decide +kernel
theorem dX1_does_15 : decode cX1_does 15 = .ok (.iconst 0, 1) := by decide +kernel
theorem dX1_does_16 : decode cX1_does 16 = .ok (.ireturn, 1) := by decide +kernel
def fX1_does (x0 x1 : Int) (v : V_) : Option (Int × V_) :=
  if (v (x0 + 1) 0) = x1 then (
    some (1, v))
  else (
    some (0, v))
theorem cX1_does_ok (l : Launch) {E : En_} {sz : Int} (hC : Cl_ E.2.2.2.2.2 sz) {x0 x1 : Int} {v : V_} {out : Int × V_} (T0 : (E.2.2.2.2.2 x0 ∧ ty_ x0 = 1 ∧ ln_ x0 = 0)) (h : fX1_does x0 x1 v = some out) : Met l yX1_does [.code yX1_does cX1_does 2 (some FieldType.boolean)] (rm_ 0 0) (Pc_ E sz v [(2, x0), (0, x1)]) (Qc_ E sz 0 out.1 out.2) 0 0 (fun q => E.1 < q) := by
  refine met_G0 RX1 (by decide +kernel) rfl (Nat.le_of_ble_eq_true rfl) ?_
  intro p e s m args below meth c C hr hlk
  rw [fX1_does] at h
  refine g_aload_n C (f := 0) dX1_does_0 0 rfl ?_
  have F1 := fX1_0 hC T0.1 T0.2.1
  refine g_getR C (k := 0) (o := 1) okX1 (by decide) kf_RX1_12 dX1_does_1 hC T0.1 T0.2.1 rfl rfl ?_
  refine g_getf C (k := 0) (kd := 0) okX8 (by decide) kf_RX1_47 dX1_does_4 (rg_ hC F1.1) F1.2.1 rfl ?_
  refine g_iload_n C (f := 1) dX1_does_7 1 rfl ?_
  refine g_icmp_ne C 15 dX1_does_8 rfl (fun c2 => ?_) (fun c2 => ?_)
  · replace h := if_f h c2
    refine g_iconst C (n := 0) dX1_does_15 (by decide) ?_
    cases h
    exact g_zret C dX1_does_16 hr hlk (Or.inl rfl)
  · replace h := if_t h c2
    refine g_iconst C (n := 1) dX1_does_11 (by decide) ?_
    refine g_goto C 16 dX1_does_12 rfl ?_
    cases h
    exact g_zret C dX1_does_16 hr hlk (Or.inr rfl)
theorem dX1_isSplit_0 : decode cX1_isSplit 0 = .ok (.aload_n 0, 1) := by decide +kernel
theorem dX1_isSplit_1 : decode cX1_isSplit 1 = .ok (.getfield 18, 3) := by decide +kernel
theorem dX1_isSplit_4 : decode cX1_isSplit 4 = .ok (.iconst 2, 1) := by decide +kernel
theorem dX1_isSplit_5 : decode cX1_isSplit 5 = .ok (.if_icmp .ne 7, 3) := by decide +kernel
theorem dX1_isSplit_8 : decode cX1_isSplit 8 = .ok (.iconst 1, 1) := by decide +kernel
theorem dX1_isSplit_9 : decode cX1_isSplit 9 = .ok (.goto 4, 3) := by decide +kernel
theorem dX1_isSplit_12 : decode cX1_isSplit 12 = .ok (.iconst 0, 1) := by decide +kernel
theorem dX1_isSplit_13 : decode cX1_isSplit 13 = .ok (.ireturn, 1) := by decide +kernel
def fX1_isSplit (x0 : Int) (v : V_) : Option (Int × V_) :=
  if (v x0 1) = 2 then (
    some (1, v))
  else (
    some (0, v))
theorem cX1_isSplit_ok (l : Launch) {E : En_} {sz : Int} (hC : Cl_ E.2.2.2.2.2 sz) {x0 : Int} {v : V_} {out : Int × V_} (T0 : (E.2.2.2.2.2 x0 ∧ ty_ x0 = 1 ∧ ln_ x0 = 0)) (h : fX1_isSplit x0 v = some out) : Met l yX1_isSplit [.code yX1_isSplit cX1_isSplit 1 (some FieldType.boolean)] (rm_ 0 0) (Pc_ E sz v [(2, x0)]) (Qc_ E sz 0 out.1 out.2) 0 0 (fun q => E.1 < q) := by
  refine met_G0 RX1 (by decide +kernel) rfl (Nat.le_of_ble_eq_true rfl) ?_
  intro p e s m args below meth c C hr hlk
  rw [fX1_isSplit] at h
  refine g_aload_n C (f := 0) dX1_isSplit_0 0 rfl ?_
  refine g_getf C (k := 1) (kd := 0) okX1 (by decide) kf_RX1_18 dX1_isSplit_1 (rg_ hC T0.1) T0.2.1 rfl ?_
  refine g_iconst C (n := 2) dX1_isSplit_4 (by decide) ?_
  refine g_icmp_ne C 12 dX1_isSplit_5 rfl (fun c1 => ?_) (fun c1 => ?_)
  · replace h := if_f h c1
    refine g_iconst C (n := 0) dX1_isSplit_12 (by decide) ?_
    cases h
    exact g_zret C dX1_isSplit_13 hr hlk (Or.inl rfl)
  · replace h := if_t h c1
    refine g_iconst C (n := 1) dX1_isSplit_8 (by decide) ?_
    refine g_goto C 13 dX1_isSplit_9 rfl ?_
    cases h
    exact g_zret C dX1_isSplit_13 hr hlk (Or.inr rfl)
theorem dX10_needOf_0 : decode cX10_needOf 0 = .ok (.aload_n 0, 1) := by decide +kernel
theorem dX10_needOf_1 : decode cX10_needOf 1 = .ok (.getfield 24, 3) := by decide +kernel
theorem dX10_needOf_4 : decode cX10_needOf 4 = .ok (.iload_n 1, 1) := by decide +kernel
theorem dX10_needOf_5 : decode cX10_needOf 5 = .ok (.bipush 34, 2) := by decide +kernel
theorem dX10_needOf_7 : decode cX10_needOf 7 = .ok (.imul, 1) := by decide +kernel
theorem dX10_needOf_8 : decode cX10_needOf 8 = .ok (.iload_n 2, 1) := by decide +kernel
theorem dX10_needOf_9 : decode cX10_needOf 9 = .ok (.iadd, 1) := by decide +kernel
theorem dX10_needOf_10 : decode cX10_needOf 10 = .ok (.iaload, 1) := by decide +kernel
theorem dX10_needOf_11 : decode cX10_needOf 11 = .ok (.ireturn, 1) := by decide +kernel
def fX10_needOf (x0 x1 x2 : Int) (v : V_) : Option (Int × V_) :=
  ck_ (0 ≤ wr_ ((wr_ (x1 * 34)) + x2) ∧ wr_ ((wr_ (x1 * 34)) + x2) < 1156) (
  some (v (x0 + 4) (wr_ ((wr_ (x1 * 34)) + x2)), v))
theorem cX10_needOf_ok (l : Launch) {E : En_} {sz : Int} (hC : Cl_ E.2.2.2.2.2 sz) {x0 x1 x2 : Int} {v : V_} {out : Int × V_} (T0 : (E.2.2.2.2.2 x0 ∧ ty_ x0 = 10 ∧ ln_ x0 = 0)) (h : fX10_needOf x0 x1 x2 v = some out) : Met l yX10_needOf [.code yX10_needOf cX10_needOf 3 (some FieldType.int)] (rm_ 0 0) (Pc_ E sz v [(2, x0), (0, x1), (0, x2)]) (Qc_ E sz 0 out.1 out.2) 0 0 (fun q => E.1 < q) := by
  refine met_G0 RX10 (by decide +kernel) rfl (Nat.le_of_ble_eq_true rfl) ?_
  intro p e s m args below meth c C hr hlk
  rw [fX10_needOf] at h
  refine g_aload_n C (f := 0) dX10_needOf_0 0 rfl ?_
  have F1 := fX10_13 hC T0.1 T0.2.1
  refine g_getR C (k := 13) (o := 4) okX10 (by decide) kf_RX10_24 dX10_needOf_1 hC T0.1 T0.2.1 rfl rfl ?_
  refine g_iload_n C (f := 1) dX10_needOf_4 1 rfl ?_
  refine g_bipush C (n := 34) dX10_needOf_5 (by decide) ?_
  refine g_imul C dX10_needOf_7 ?_
  refine g_iload_n C (f := 2) dX10_needOf_8 2 rfl ?_
  refine g_iadd C dX10_needOf_9 ?_
  obtain ⟨c2, h⟩ := ck_e h
  refine g_iald C 1156 dX10_needOf_10 (rg_ hC F1.1) F1.2.1 F1.2.2 c2 ?_
  cases h
  exact g_iret C dX10_needOf_11 hr hlk
theorem dX2_begin_0 : decode cX2_begin 0 = .ok (.aload_n 0, 1) := by decide +kernel
theorem dX2_begin_1 : decode cX2_begin 1 = .ok (.iconst 0, 1) := by decide +kernel
theorem dX2_begin_2 : decode cX2_begin 2 = .ok (.putfield 31, 3) := by decide +kernel
theorem dX2_begin_5 : decode cX2_begin 5 = .ok (.iconst 0, 1) := by decide +kernel
theorem dX2_begin_6 : decode cX2_begin 6 = .ok (.istore_n 2, 1) := by decide +kernel
theorem dX2_begin_7 : decode cX2_begin 7 = .ok (.iload_n 2, 1) := by decide +kernel
theorem dX2_begin_8 : decode cX2_begin 8 = .ok (.aload_n 1, 1) := by decide +kernel
theorem dX2_begin_9 : decode cX2_begin 9 = .ok (.getfield 35, 3) := by decide +kernel
theorem dX2_begin_12 : decode cX2_begin 12 = .ok (.if_icmp .ge 66, 3) := by decide +kernel
theorem dX2_begin_15 : decode cX2_begin 15 = .ok (.aload_n 0, 1) := by decide +kernel
theorem dX2_begin_16 : decode cX2_begin 16 = .ok (.getfield 9, 3) := by decide +kernel
theorem dX2_begin_19 : decode cX2_begin 19 = .ok (.iload_n 2, 1) := by decide +kernel
theorem dX2_begin_20 : decode cX2_begin 20 = .ok (.iconst (-1), 1) := by decide +kernel
theorem dX2_begin_21 : decode cX2_begin 21 = .ok (.iastore, 1) := by decide +kernel
theorem dX2_begin_22 : decode cX2_begin 22 = .ok (.aload_n 0, 1) := by decide +kernel
theorem dX2_begin_23 : decode cX2_begin 23 = .ok (.getfield 18, 3) := by decide +kernel
theorem dX2_begin_26 : decode cX2_begin 26 = .ok (.iload_n 2, 1) := by decide +kernel
theorem dX2_begin_27 : decode cX2_begin 27 = .ok (.iconst 0, 1) := by decide +kernel
theorem dX2_begin_28 : decode cX2_begin 28 = .ok (.iastore, 1) := by decide +kernel
theorem dX2_begin_29 : decode cX2_begin 29 = .ok (.aload_n 0, 1) := by decide +kernel
theorem dX2_begin_30 : decode cX2_begin 30 = .ok (.getfield 21, 3) := by decide +kernel
theorem dX2_begin_33 : decode cX2_begin 33 = .ok (.iload_n 2, 1) := by decide +kernel
theorem dX2_begin_34 : decode cX2_begin 34 = .ok (.iconst 0, 1) := by decide +kernel
theorem dX2_begin_35 : decode cX2_begin 35 = .ok (.iastore, 1) := by decide +kernel
theorem dX2_begin_36 : decode cX2_begin 36 = .ok (.iconst 0, 1) := by decide +kernel
theorem dX2_begin_37 : decode cX2_begin 37 = .ok (.istore_n 3, 1) := by decide +kernel
theorem dX2_begin_38 : decode cX2_begin 38 = .ok (.iload_n 3, 1) := by decide +kernel
theorem dX2_begin_39 : decode cX2_begin 39 = .ok (.iload_n 2, 1) := by decide +kernel
theorem dX2_begin_40 : decode cX2_begin 40 = .ok (.if_icmp .ge 32, 3) := by decide +kernel
theorem dX2_begin_43 : decode cX2_begin 43 = .ok (.aload_n 0, 1) := by decide +kernel
theorem dX2_begin_44 : decode cX2_begin 44 = .ok (.getfield 21, 3) := by decide +kernel
theorem dX2_begin_47 : decode cX2_begin 47 = .ok (.iload_n 2, 1) := by decide +kernel
theorem dX2_begin_48 : decode cX2_begin 48 = .ok (.dup2, 1) := by decide +kernel
theorem dX2_begin_49 : decode cX2_begin 49 = .ok (.iaload, 1) := by decide +kernel
theorem dX2_begin_50 : decode cX2_begin 50 = .ok (.aload_n 1, 1) := by decide +kernel
theorem dX2_begin_51 : decode cX2_begin 51 = .ok (.iload_n 3, 1) := by decide +kernel
theorem dX2_begin_52 : decode cX2_begin 52 = .ok (.iload_n 2, 1) := by decide +kernel
theorem dX2_begin_53 : decode cX2_begin 53 = .ok (.invokevirtual 54, 3) := by decide +kernel
theorem dX2_begin_56 : decode cX2_begin 56 = .ok (.ifCond .lt 7, 3) := by decide +kernel
theorem dX2_begin_59 : decode cX2_begin 59 = .ok (.iconst 1, 1) := by decide +kernel
theorem dX2_begin_60 : decode cX2_begin 60 = .ok (.goto 4, 3) := by decide +kernel
theorem dX2_begin_63 : decode cX2_begin 63 = .ok (.iconst 0, 1) := by decide +kernel
theorem dX2_begin_64 : decode cX2_begin 64 = .ok (.iadd, 1) := by decide +kernel
theorem dX2_begin_65 : decode cX2_begin 65 = .ok (.iastore, 1) := by decide +kernel
theorem dX2_begin_66 : decode cX2_begin 66 = .ok (.iinc 3 1, 3) := by decide +kernel
theorem dX2_begin_69 : decode cX2_begin 69 = .ok (.goto (-31), 3) := by decide +kernel
theorem dX2_begin_72 : decode cX2_begin 72 = .ok (.iinc 2 1, 3) := by decide +kernel
theorem dX2_begin_75 : decode cX2_begin 75 = .ok (.goto (-68), 3) := by decide +kernel
theorem dX2_begin_78 : decode cX2_begin 78 = .ok (.return_, 1) := by decide +kernel
def fX2_begin_64 (k7 : Int → Int → Int → V_ → Option (Int × V_)) (k38 : Int → Int → Int → Int → V_ → Option (Int × V_)) (x0 x1 x2 x3 s0 s1 s2 s3 : Int) (v : V_) : Option (Int × V_) :=
  ck_ (0 ≤ s1 ∧ s1 < 34) (
  lt_ (up_ v s0 s1 (wr_ (s2 + s3))) fun v19 =>
  lt_ (wr_ (x3 + 1)) fun y20 =>
  k38 x0 x1 x2 y20 v19)
def fX2_begin_38 (k7 : Int → Int → Int → V_ → Option (Int × V_)) : Nat → Int → Int → Int → Int → V_ → Option (Int × V_)
  | 0, _, _, _, _, _ => none
  | n + 1, x0, x1, x2, x3, v =>
    if x2 ≤ x3 then (
      lt_ (wr_ (x2 + 1)) fun y13 =>
      k7 x0 x1 y13 v)
    else (
      ck_ (0 ≤ x2 ∧ x2 < 34) (
      bd_ (fX10_needOf x1 x3 x2 v) fun q16 =>
      if q16.1 < 0 then (
        fX2_begin_64 k7 (fX2_begin_38 k7 n) x0 x1 x2 x3 (x0 + 4) x2 (v (x0 + 4) x2) 0 q16.2)
      else (
        fX2_begin_64 k7 (fX2_begin_38 k7 n) x0 x1 x2 x3 (x0 + 4) x2 (v (x0 + 4) x2) 1 q16.2)))
def fX2_begin_7 : Nat → Int → Int → Int → V_ → Option (Int × V_)
  | 0, _, _, _, _ => none
  | n + 1, x0, x1, x2, v =>
    if (v x1 3) ≤ x2 then (
      some (0, v))
    else (
      ck_ (0 ≤ x2 ∧ x2 < 34) (
      lt_ (up_ v (x0 + 1) x2 (-1)) fun v5 =>
      ck_ (0 ≤ x2 ∧ x2 < 34) (
      lt_ (up_ v5 (x0 + 3) x2 0) fun v8 =>
      ck_ (0 ≤ x2 ∧ x2 < 34) (
      lt_ (up_ v8 (x0 + 4) x2 0) fun v11 =>
      fX2_begin_38 (fX2_begin_7 n) fu_ x0 x1 x2 0 v11))))
def fX2_begin (x0 x1 : Int) (v : V_) : Option (Int × V_) :=
  lt_ (up_ v x0 5 0) fun v1 =>
  fX2_begin_7 fu_ x0 x1 0 v1
section
variable {E : En_} {p : Program} {l : Launch} {e : Env} {s : State} {m : MethodId} {args : Array Value} {below : List Frame} {meth : Method} {c : Code} {sz : Int}
theorem tX2_begin_64 (C : MC_ E p s m c cX2_begin 4 RX2) (hr : meth.sig.returnType = (none : Option FieldType)) (hlk : meth.locks = false) (hC : Cl_ E.2.2.2.2.2 sz) {out : Int × V_} (k7 : Int → Int → Int → V_ → Option (Int × V_)) (H_7 : ∀ (x0 x1 x2 : Int) (v : V_), (E.2.2.2.2.2 x0 ∧ ty_ x0 = 2 ∧ ln_ x0 = 0) → (E.2.2.2.2.2 x1 ∧ ty_ x1 = 10 ∧ ln_ x1 = 0) → k7 x0 x1 x2 v = some out → G_ E p l e (rm_ 1 22) s m args below meth c 4 sz (Q_ E below args s sz sz 9 out.1 out.2) 7 [(0, (2, x0)), (1, (2, x1)), (2, (0, x2))] [] v sz) (k38 : Int → Int → Int → Int → V_ → Option (Int × V_)) (H_38 : ∀ (x0 x1 x2 x3 : Int) (v : V_), (E.2.2.2.2.2 x0 ∧ ty_ x0 = 2 ∧ ln_ x0 = 0) → (E.2.2.2.2.2 x1 ∧ ty_ x1 = 10 ∧ ln_ x1 = 0) → k38 x0 x1 x2 x3 v = some out → G_ E p l e (rm_ 1 22) s m args below meth c 4 sz (Q_ E below args s sz sz 9 out.1 out.2) 38 [(0, (2, x0)), (1, (2, x1)), (2, (0, x2)), (3, (0, x3))] [] v sz) (x0 x1 x2 x3 s0 s1 s2 s3 : Int) (v : V_) (T0 : (E.2.2.2.2.2 x0 ∧ ty_ x0 = 2 ∧ ln_ x0 = 0)) (T1 : (E.2.2.2.2.2 x1 ∧ ty_ x1 = 10 ∧ ln_ x1 = 0)) (S0 : (E.2.2.2.2.2 s0 ∧ ty_ s0 = 20 ∧ ln_ s0 = 34)) (h : fX2_begin_64 k7 k38 x0 x1 x2 x3 s0 s1 s2 s3 v = some out) : G_ E p l e (rm_ 1 22) s m args below meth c 4 sz (Q_ E below args s sz sz 9 out.1 out.2) 64 [(0, (2, x0)), (1, (2, x1)), (2, (0, x2)), (3, (0, x3))] [(0, s3), (0, s2), (0, s1), (2, s0)] v sz := by
  rw [fX2_begin_64] at h
  refine g_iadd C dX2_begin_64 ?_
  obtain ⟨c18, h⟩ := ck_e h
  obtain ⟨v19, ev19, h⟩ := lt_e h
  refine g_iast C 34 dX2_begin_65 (rg_ hC S0.1) S0.2.1 S0.2.2 c18 v19 ev19 ?_
  obtain ⟨y20, ey20, h⟩ := lt_e h
  refine g_iincx C (ls' := [(3, (0, y20)), (0, (2, x0)), (1, (2, x1)), (2, (0, x2))]) ey20 dX2_begin_66 3 rfl (by decide) (by decide) rfl ?_
  refine g_goto C 38 dX2_begin_69 rfl ?_
  refine g_sub [1, 2, 3, 0] rfl rfl ?_
  exact H_38 _ _ _ _ _ T0 T1 h
theorem tX2_begin_38 (C : MC_ E p s m c cX2_begin 4 RX2) (hr : meth.sig.returnType = (none : Option FieldType)) (hlk : meth.locks = false) (hC : Cl_ E.2.2.2.2.2 sz) {out : Int × V_} (k7 : Int → Int → Int → V_ → Option (Int × V_)) (H_7 : ∀ (x0 x1 x2 : Int) (v : V_), (E.2.2.2.2.2 x0 ∧ ty_ x0 = 2 ∧ ln_ x0 = 0) → (E.2.2.2.2.2 x1 ∧ ty_ x1 = 10 ∧ ln_ x1 = 0) → k7 x0 x1 x2 v = some out → G_ E p l e (rm_ 1 22) s m args below meth c 4 sz (Q_ E below args s sz sz 9 out.1 out.2) 7 [(0, (2, x0)), (1, (2, x1)), (2, (0, x2))] [] v sz) : ∀ (n : Nat) (x0 x1 x2 x3 : Int) (v : V_), (E.2.2.2.2.2 x0 ∧ ty_ x0 = 2 ∧ ln_ x0 = 0) → (E.2.2.2.2.2 x1 ∧ ty_ x1 = 10 ∧ ln_ x1 = 0) → fX2_begin_38 k7 n x0 x1 x2 x3 v = some out → G_ E p l e (rm_ 1 22) s m args below meth c 4 sz (Q_ E below args s sz sz 9 out.1 out.2) 38 [(0, (2, x0)), (1, (2, x1)), (2, (0, x2)), (3, (0, x3))] [] v sz := by
  intro n
  induction n with
  | zero =>
    intro x0 x1 x2 x3 v T0 T1 h
    cases h
  | succ n H_38 =>
    intro x0 x1 x2 x3 v T0 T1 h
    rw [fX2_begin_38] at h
    refine g_iload_n C (f := 3) dX2_begin_38 3 rfl ?_
    refine g_iload_n C (f := 2) dX2_begin_39 2 rfl ?_
    refine g_icmp_ge C 72 dX2_begin_40 rfl (fun c12 => ?_) (fun c12 => ?_)
    · replace h := if_t h c12
      obtain ⟨y13, ey13, h⟩ := lt_e h
      refine g_iincx C (ls' := [(2, (0, y13)), (0, (2, x0)), (1, (2, x1)), (3, (0, x3))]) ey13 dX2_begin_72 2 rfl (by decide) (by decide) rfl ?_
      refine g_goto C 7 dX2_begin_75 rfl ?_
      refine g_sub [1, 2, 0] rfl rfl ?_
      exact H_7 _ _ _ _ T0 T1 h
    · replace h := if_f h c12
      refine g_aload_n C (f := 0) dX2_begin_43 0 rfl ?_
      have F14 := fX2_3 hC T0.1 T0.2.1
      refine g_getR C (k := 3) (o := 4) okX2 (by decide) kf_RX2_21 dX2_begin_44 hC T0.1 T0.2.1 rfl rfl ?_
      refine g_iload_n C (f := 2) dX2_begin_47 2 rfl ?_
      refine g_dup2 C (Nat.ne_of_beq_eq_false rfl) (Nat.ne_of_beq_eq_false rfl) dX2_begin_48 ?_
      obtain ⟨c15, h⟩ := ck_e h
      refine g_iald C 34 dX2_begin_49 (rg_ hC F14.1) F14.2.1 F14.2.2 c15 ?_
      refine g_aload_n C (f := 1) dX2_begin_50 1 rfl ?_
      refine g_iload_n C (f := 3) dX2_begin_51 3 rfl ?_
      refine g_iload_n C (f := 2) dX2_begin_52 2 rfl ?_
      obtain ⟨q16, eq16, h⟩ := bd_e h
      refine g_cV C [(0, x3), (0, x2)] (cX10_needOf_ok l hC T1 eq16) okX10 T1.2.1 (rg_ hC T1.1) km_RX2_54 cv_X10_needOf rfl (by decide) rfl rfl (Nat.le_of_ble_eq_true rfl) dX2_begin_53 ?_
      refine g_if_lt C 63 dX2_begin_56 rfl (fun c17 => ?_) (fun c17 => ?_)
      · replace h := if_t h c17
        refine g_iconst C (n := 0) dX2_begin_63 (by decide) ?_
        refine g_sub [0, 1, 2, 3] rfl rfl ?_
        exact tX2_begin_64 C hr hlk hC _ H_7 _ H_38 _ _ _ _ _ _ _ _ _ T0 T1 F14 h
      · replace h := if_f h c17
        refine g_iconst C (n := 1) dX2_begin_59 (by decide) ?_
        refine g_goto C 64 dX2_begin_60 rfl ?_
        refine g_sub [0, 1, 2, 3] rfl rfl ?_
        exact tX2_begin_64 C hr hlk hC _ H_7 _ H_38 _ _ _ _ _ _ _ _ _ T0 T1 F14 h
theorem tX2_begin_7 (C : MC_ E p s m c cX2_begin 4 RX2) (hr : meth.sig.returnType = (none : Option FieldType)) (hlk : meth.locks = false) (hC : Cl_ E.2.2.2.2.2 sz) {out : Int × V_} : ∀ (n : Nat) (x0 x1 x2 : Int) (v : V_), (E.2.2.2.2.2 x0 ∧ ty_ x0 = 2 ∧ ln_ x0 = 0) → (E.2.2.2.2.2 x1 ∧ ty_ x1 = 10 ∧ ln_ x1 = 0) → fX2_begin_7 n x0 x1 x2 v = some out → G_ E p l e (rm_ 1 22) s m args below meth c 4 sz (Q_ E below args s sz sz 9 out.1 out.2) 7 [(0, (2, x0)), (1, (2, x1)), (2, (0, x2))] [] v sz := by
  intro n
  induction n with
  | zero =>
    intro x0 x1 x2 v T0 T1 h
    cases h
  | succ n H_7 =>
    intro x0 x1 x2 v T0 T1 h
    rw [fX2_begin_7] at h
    refine g_iload_n C (f := 2) dX2_begin_7 2 rfl ?_
    refine g_aload_n C (f := 1) dX2_begin_8 1 rfl ?_
    refine g_getf C (k := 3) (kd := 0) okX10 (by decide) kf_RX2_35 dX2_begin_9 (rg_ hC T1.1) T1.2.1 rfl ?_
    refine g_icmp_ge C 78 dX2_begin_12 rfl (fun c2 => ?_) (fun c2 => ?_)
    · replace h := if_t h c2
      cases h
      exact g_vret C dX2_begin_78 hr hlk
    · replace h := if_f h c2
      refine g_aload_n C (f := 0) dX2_begin_15 0 rfl ?_
      have F3 := fX2_0 hC T0.1 T0.2.1
      refine g_getR C (k := 0) (o := 1) okX2 (by decide) kf_RX2_9 dX2_begin_16 hC T0.1 T0.2.1 rfl rfl ?_
      refine g_iload_n C (f := 2) dX2_begin_19 2 rfl ?_
      refine g_iconst C (n := (-1)) dX2_begin_20 (by decide) ?_
      obtain ⟨c4, h⟩ := ck_e h
      obtain ⟨v5, ev5, h⟩ := lt_e h
      refine g_iast C 34 dX2_begin_21 (rg_ hC F3.1) F3.2.1 F3.2.2 c4 v5 ev5 ?_
      refine g_aload_n C (f := 0) dX2_begin_22 0 rfl ?_
      have F6 := fX2_2 hC T0.1 T0.2.1
      refine g_getR C (k := 2) (o := 3) okX2 (by decide) kf_RX2_18 dX2_begin_23 hC T0.1 T0.2.1 rfl rfl ?_
      refine g_iload_n C (f := 2) dX2_begin_26 2 rfl ?_
      refine g_iconst C (n := 0) dX2_begin_27 (by decide) ?_
      obtain ⟨c7, h⟩ := ck_e h
      obtain ⟨v8, ev8, h⟩ := lt_e h
      refine g_iast C 34 dX2_begin_28 (rg_ hC F6.1) F6.2.1 F6.2.2 c7 v8 ev8 ?_
      refine g_aload_n C (f := 0) dX2_begin_29 0 rfl ?_
      have F9 := fX2_3 hC T0.1 T0.2.1
      refine g_getR C (k := 3) (o := 4) okX2 (by decide) kf_RX2_21 dX2_begin_30 hC T0.1 T0.2.1 rfl rfl ?_
      refine g_iload_n C (f := 2) dX2_begin_33 2 rfl ?_
      refine g_iconst C (n := 0) dX2_begin_34 (by decide) ?_
      obtain ⟨c10, h⟩ := ck_e h
      obtain ⟨v11, ev11, h⟩ := lt_e h
      refine g_iast C 34 dX2_begin_35 (rg_ hC F9.1) F9.2.1 F9.2.2 c10 v11 ev11 ?_
      refine g_iconst C (n := 0) dX2_begin_36 (by decide) ?_
      refine g_istore_n C (f := 3) (ls' := [(3, (0, 0)), (0, (2, x0)), (1, (2, x1)), (2, (0, x2))]) dX2_begin_37 (by decide) rfl ?_
      refine g_sub [1, 2, 3, 0] rfl rfl ?_
      exact tX2_begin_38 C hr hlk hC _ H_7 _ _ _ _ _ _ T0 T1 h
end
theorem cX2_begin_ok (l : Launch) {E : En_} {sz : Int} (hC : Cl_ E.2.2.2.2.2 sz) {x0 x1 : Int} {v : V_} {out : Int × V_} (T0 : (E.2.2.2.2.2 x0 ∧ ty_ x0 = 2 ∧ ln_ x0 = 0)) (T1 : (E.2.2.2.2.2 x1 ∧ ty_ x1 = 10 ∧ ln_ x1 = 0)) (h : fX2_begin x0 x1 v = some out) : Met l yX2_begin [.code yX2_begin cX2_begin 4 (none : Option FieldType)] (rm_ 1 22) (Pc_ E sz v [(2, x0), (2, x1)]) (Qc_ E sz 9 out.1 out.2) 0 0 (fun q => E.1 < q) := by
  refine met_G0 RX2 (by decide +kernel) rfl (Nat.le_of_ble_eq_true rfl) ?_
  intro p e s m args below meth c C hr hlk
  rw [fX2_begin] at h
  refine g_aload_n C (f := 0) dX2_begin_0 0 rfl ?_
  refine g_iconst C (n := 0) dX2_begin_1 (by decide) ?_
  obtain ⟨v1, ev1, h⟩ := lt_e h
  refine g_putf C (k := 5) (kd := 0) okX2 (by decide) kf_RX2_31 dX2_begin_2 (rg_ hC T0.1) T0.2.1 rfl rfl nvI (Or.inl rfl) v1 ev1 ?_
  refine g_iconst C (n := 0) dX2_begin_5 (by decide) ?_
  refine g_istore_n C (f := 2) (ls' := [(2, (0, 0)), (0, (2, x0)), (1, (2, x1))]) dX2_begin_6 (by decide) rfl ?_
  refine g_sub [1, 2, 0] rfl rfl ?_
  exact tX2_begin_7 C hr hlk hC _ _ _ _ _ T0 T1 h
theorem dX8_kindOf_0 : decode cX8_kindOf 0 = .ok (.aload_n 0, 1) := by decide +kernel
theorem dX8_kindOf_1 : decode cX8_kindOf 1 = .ok (.getfield 9, 3) := by decide +kernel
theorem dX8_kindOf_4 : decode cX8_kindOf 4 = .ok (.tableswitch 54 2 9 #[48, 48, 50, 50, 54, 52, 52, 52], 48) := by decide +kernel
theorem dX8_kindOf_52 : decode cX8_kindOf 52 = .ok (.iconst 1, 1) := by decide +kernel
theorem dX8_kindOf_53 : decode cX8_kindOf 53 = .ok (.ireturn, 1) := by decide +kernel
theorem dX8_kindOf_54 : decode cX8_kindOf 54 = .ok (.iconst 2, 1) := by decide +kernel
theorem dX8_kindOf_55 : decode cX8_kindOf 55 = .ok (.ireturn, 1) := by decide +kernel
theorem dX8_kindOf_56 : decode cX8_kindOf 56 = .ok (.iconst 3, 1) := by decide +kernel
theorem dX8_kindOf_57 : decode cX8_kindOf 57 = .ok (.ireturn, 1) := by decide +kernel
theorem dX8_kindOf_58 : decode cX8_kindOf 58 = .ok (.iconst 0, 1) := by decide +kernel
theorem dX8_kindOf_59 : decode cX8_kindOf 59 = .ok (.ireturn, 1) := by decide +kernel
def fX8_kindOf (x0 : Int) (v : V_) : Option (Int × V_) :=
  if (v x0 0) = 2 then (
    some (1, v))
  else (
  if (v x0 0) = 3 then (
    some (1, v))
  else (
  if (v x0 0) = 4 then (
    some (2, v))
  else (
  if (v x0 0) = 5 then (
    some (2, v))
  else (
  if (v x0 0) = 7 then (
    some (3, v))
  else (
  if (v x0 0) = 8 then (
    some (3, v))
  else (
  if (v x0 0) = 9 then (
    some (3, v))
  else (
  some (0, v))))))))
theorem cX8_kindOf_ok (l : Launch) {E : En_} {sz : Int} (hC : Cl_ E.2.2.2.2.2 sz) {x0 : Int} {v : V_} {out : Int × V_} (T0 : (E.2.2.2.2.2 x0 ∧ ty_ x0 = 8 ∧ ln_ x0 = 0)) (h : fX8_kindOf x0 v = some out) : Met l yX8_kindOf [.code yX8_kindOf cX8_kindOf 1 (some FieldType.int)] (rm_ 0 0) (Pc_ E sz v [(2, x0)]) (Qc_ E sz 0 out.1 out.2) 0 0 (fun q => E.1 < q) := by
  refine met_G0 RX8 (by decide +kernel) rfl (Nat.le_of_ble_eq_true rfl) ?_
  intro p e s m args below meth c C hr hlk
  rw [fX8_kindOf] at h
  refine g_aload_n C (f := 0) dX8_kindOf_0 0 rfl ?_
  refine g_getf C (k := 0) (kd := 0) okX8 (by decide) kf_RX8_9 dX8_kindOf_1 (rg_ hC T0.1) T0.2.1 rfl ?_
  by_cases c1 : (v x0 0) = 2
  · replace h := if_t h c1
    refine g_tin C 52 dX8_kindOf_4 2 c1 (by decide) (by decide) rfl rfl ?_
    refine g_iconst C (n := 1) dX8_kindOf_52 (by decide) ?_
    cases h
    exact g_iret C dX8_kindOf_53 hr hlk
  replace h := if_f h c1
  by_cases c2 : (v x0 0) = 3
  · replace h := if_t h c2
    refine g_tin C 52 dX8_kindOf_4 3 c2 (by decide) (by decide) rfl rfl ?_
    refine g_iconst C (n := 1) dX8_kindOf_52 (by decide) ?_
    cases h
    exact g_iret C dX8_kindOf_53 hr hlk
  replace h := if_f h c2
  by_cases c3 : (v x0 0) = 4
  · replace h := if_t h c3
    refine g_tin C 54 dX8_kindOf_4 4 c3 (by decide) (by decide) rfl rfl ?_
    refine g_iconst C (n := 2) dX8_kindOf_54 (by decide) ?_
    cases h
    exact g_iret C dX8_kindOf_55 hr hlk
  replace h := if_f h c3
  by_cases c4 : (v x0 0) = 5
  · replace h := if_t h c4
    refine g_tin C 54 dX8_kindOf_4 5 c4 (by decide) (by decide) rfl rfl ?_
    refine g_iconst C (n := 2) dX8_kindOf_54 (by decide) ?_
    cases h
    exact g_iret C dX8_kindOf_55 hr hlk
  replace h := if_f h c4
  by_cases c5 : (v x0 0) = 7
  · replace h := if_t h c5
    refine g_tin C 56 dX8_kindOf_4 7 c5 (by decide) (by decide) rfl rfl ?_
    refine g_iconst C (n := 3) dX8_kindOf_56 (by decide) ?_
    cases h
    exact g_iret C dX8_kindOf_57 hr hlk
  replace h := if_f h c5
  by_cases c6 : (v x0 0) = 8
  · replace h := if_t h c6
    refine g_tin C 56 dX8_kindOf_4 8 c6 (by decide) (by decide) rfl rfl ?_
    refine g_iconst C (n := 3) dX8_kindOf_56 (by decide) ?_
    cases h
    exact g_iret C dX8_kindOf_57 hr hlk
  replace h := if_f h c6
  by_cases c7 : (v x0 0) = 9
  · replace h := if_t h c7
    refine g_tin C 56 dX8_kindOf_4 9 c7 (by decide) (by decide) rfl rfl ?_
    refine g_iconst C (n := 3) dX8_kindOf_56 (by decide) ?_
    cases h
    exact g_iret C dX8_kindOf_57 hr hlk
  replace h := if_f h c7
  refine g_tdef C (x := v x0 0) 58 dX8_kindOf_4 (by intro a ha h1 h2; have hh : a = 6 := (by omega); rcases hh with rfl <;> rfl) rfl ?_
  refine g_iconst C (n := 0) dX8_kindOf_58 (by decide) ?_
  cases h
  exact g_iret C dX8_kindOf_59 hr hlk
theorem dX2_choose_0 : decode cX2_choose 0 = .ok (.iconst (-1), 1) := by decide +kernel
theorem dX2_choose_1 : decode cX2_choose 1 = .ok (.istore_n 3, 1) := by decide +kernel
theorem dX2_choose_2 : decode cX2_choose 2 = .ok (.iconst 0, 1) := by decide +kernel
theorem dX2_choose_3 : decode cX2_choose 3 = .ok (.istore 4, 2) := by decide +kernel
theorem dX2_choose_5 : decode cX2_choose 5 = .ok (.iload 4, 2) := by decide +kernel
theorem dX2_choose_7 : decode cX2_choose 7 = .ok (.aload_n 1, 1) := by decide +kernel
theorem dX2_choose_8 : decode cX2_choose 8 = .ok (.getfield 35, 3) := by decide +kernel
theorem dX2_choose_11 : decode cX2_choose 11 = .ok (.if_icmp .ge 104, 3) := by decide +kernel
theorem dX2_choose_14 : decode cX2_choose 14 = .ok (.aload_n 0, 1) := by decide +kernel
theorem dX2_choose_15 : decode cX2_choose 15 = .ok (.getfield 9, 3) := by decide +kernel
theorem dX2_choose_18 : decode cX2_choose 18 = .ok (.iload 4, 2) := by decide +kernel
theorem dX2_choose_20 : decode cX2_choose 20 = .ok (.iaload, 1) := by decide +kernel
theorem dX2_choose_21 : decode cX2_choose 21 = .ok (.iconst (-1), 1) := by decide +kernel
theorem dX2_choose_22 : decode cX2_choose 22 = .ok (.if_icmp .ne 28, 3) := by decide +kernel
theorem dX2_choose_25 : decode cX2_choose 25 = .ok (.aload_n 0, 1) := by decide +kernel
theorem dX2_choose_26 : decode cX2_choose 26 = .ok (.getfield 21, 3) := by decide +kernel
theorem dX2_choose_29 : decode cX2_choose 29 = .ok (.iload 4, 2) := by decide +kernel
theorem dX2_choose_31 : decode cX2_choose 31 = .ok (.iaload, 1) := by decide +kernel
theorem dX2_choose_32 : decode cX2_choose 32 = .ok (.ifCond .ne 18, 3) := by decide +kernel
theorem dX2_choose_35 : decode cX2_choose 35 = .ok (.aload_n 0, 1) := by decide +kernel
theorem dX2_choose_36 : decode cX2_choose 36 = .ok (.getfield 18, 3) := by decide +kernel
theorem dX2_choose_39 : decode cX2_choose 39 = .ok (.iload 4, 2) := by decide +kernel
theorem dX2_choose_41 : decode cX2_choose 41 = .ok (.iaload, 1) := by decide +kernel
theorem dX2_choose_42 : decode cX2_choose 42 = .ok (.iload_n 2, 1) := by decide +kernel
theorem dX2_choose_43 : decode cX2_choose 43 = .ok (.if_icmp .gt 7, 3) := by decide +kernel
theorem dX2_choose_46 : decode cX2_choose 46 = .ok (.iconst 1, 1) := by decide +kernel
theorem dX2_choose_47 : decode cX2_choose 47 = .ok (.goto 4, 3) := by decide +kernel
theorem dX2_choose_50 : decode cX2_choose 50 = .ok (.iconst 0, 1) := by decide +kernel
theorem dX2_choose_51 : decode cX2_choose 51 = .ok (.istore 5, 2) := by decide +kernel
theorem dX2_choose_53 : decode cX2_choose 53 = .ok (.iload 5, 2) := by decide +kernel
theorem dX2_choose_55 : decode cX2_choose 55 = .ok (.ifCond .eq 54, 3) := by decide +kernel
theorem dX2_choose_58 : decode cX2_choose 58 = .ok (.aload_n 0, 1) := by decide +kernel
theorem dX2_choose_59 : decode cX2_choose 59 = .ok (.getfield 24, 3) := by decide +kernel
theorem dX2_choose_62 : decode cX2_choose 62 = .ok (.aload_n 1, 1) := by decide +kernel
theorem dX2_choose_63 : decode cX2_choose 63 = .ok (.getfield 58, 3) := by decide +kernel
theorem dX2_choose_66 : decode cX2_choose 66 = .ok (.iload 4, 2) := by decide +kernel
theorem dX2_choose_68 : decode cX2_choose 68 = .ok (.aaload, 1) := by decide +kernel
theorem dX2_choose_69 : decode cX2_choose 69 = .ok (.getfield 62, 3) := by decide +kernel
theorem dX2_choose_72 : decode cX2_choose 72 = .ok (.invokevirtual 68, 3) := by decide +kernel
theorem dX2_choose_75 : decode cX2_choose 75 = .ok (.iaload, 1) := by decide +kernel
theorem dX2_choose_76 : decode cX2_choose 76 = .ok (.ifCond .le 33, 3) := by decide +kernel
theorem dX2_choose_79 : decode cX2_choose 79 = .ok (.iload_n 3, 1) := by decide +kernel
theorem dX2_choose_80 : decode cX2_choose 80 = .ok (.iconst (-1), 1) := by decide +kernel
theorem dX2_choose_81 : decode cX2_choose 81 = .ok (.if_icmp .eq 25, 3) := by decide +kernel
theorem dX2_choose_84 : decode cX2_choose 84 = .ok (.aload_n 1, 1) := by decide +kernel
theorem dX2_choose_85 : decode cX2_choose 85 = .ok (.getfield 58, 3) := by decide +kernel
theorem dX2_choose_88 : decode cX2_choose 88 = .ok (.iload 4, 2) := by decide +kernel
theorem dX2_choose_90 : decode cX2_choose 90 = .ok (.aaload, 1) := by decide +kernel
theorem dX2_choose_91 : decode cX2_choose 91 = .ok (.getfield 74, 3) := by decide +kernel
theorem dX2_choose_94 : decode cX2_choose 94 = .ok (.aload_n 1, 1) := by decide +kernel
theorem dX2_choose_95 : decode cX2_choose 95 = .ok (.getfield 58, 3) := by decide +kernel
theorem dX2_choose_98 : decode cX2_choose 98 = .ok (.iload_n 3, 1) := by decide +kernel
theorem dX2_choose_99 : decode cX2_choose 99 = .ok (.aaload, 1) := by decide +kernel
theorem dX2_choose_100 : decode cX2_choose 100 = .ok (.getfield 74, 3) := by decide +kernel
theorem dX2_choose_103 : decode cX2_choose 103 = .ok (.if_icmp .le 6, 3) := by decide +kernel
theorem dX2_choose_106 : decode cX2_choose 106 = .ok (.iload 4, 2) := by decide +kernel
theorem dX2_choose_108 : decode cX2_choose 108 = .ok (.istore_n 3, 1) := by decide +kernel
theorem dX2_choose_109 : decode cX2_choose 109 = .ok (.iinc 4 1, 3) := by decide +kernel
theorem dX2_choose_112 : decode cX2_choose 112 = .ok (.goto (-107), 3) := by decide +kernel
theorem dX2_choose_115 : decode cX2_choose 115 = .ok (.iload_n 3, 1) := by decide +kernel
theorem dX2_choose_116 : decode cX2_choose 116 = .ok (.ireturn, 1) := by decide +kernel
def fX2_choose_106 (k5 : Int → Int → Int → Int → Int → V_ → Option (Int × V_)) (x0 x1 x2 x4 : Int) (v : V_) : Option (Int × V_) :=
  lt_ (wr_ (x4 + 1)) fun y17 =>
  k5 x0 x1 x2 x4 y17 v
def fX2_choose_51 (k5 : Int → Int → Int → Int → Int → V_ → Option (Int × V_)) (x0 x1 x2 x3 x4 s0 : Int) (v : V_) : Option (Int × V_) :=
  if s0 = 0 then (
    lt_ (wr_ (x4 + 1)) fun y6 =>
    k5 x0 x1 x2 x3 y6 v)
  else (
    ck_ (0 ≤ x4 ∧ x4 < 34) (
    bd_ (fX8_kindOf (((x1 + 2) + (5 + 2 * x4)) + 1) v) fun q12 =>
    ck_ (0 ≤ q12.1 ∧ q12.1 < 4) (
    if (q12.2 (x0 + 5) q12.1) ≤ 0 then (
      lt_ (wr_ (x4 + 1)) fun y15 =>
      k5 x0 x1 x2 x3 y15 q12.2)
    else (
      if x3 = (-1) then (
        fX2_choose_106 k5 x0 x1 x2 x4 q12.2)
      else (
        ck_ (0 ≤ x4 ∧ x4 < 34) (
        ck_ (0 ≤ x3 ∧ x3 < 34) (
        if (q12.2 ((x1 + 2) + (5 + 2 * x4)) 8) ≤ (q12.2 ((x1 + 2) + (5 + 2 * x3)) 8) then (
          lt_ (wr_ (x4 + 1)) fun y25 =>
          k5 x0 x1 x2 x3 y25 q12.2)
        else (
          fX2_choose_106 k5 x0 x1 x2 x4 q12.2))))))))
def fX2_choose_50 (k5 : Int → Int → Int → Int → Int → V_ → Option (Int × V_)) (x0 x1 x2 x3 x4 : Int) (v : V_) : Option (Int × V_) :=
  fX2_choose_51 k5 x0 x1 x2 x3 x4 0 v
def fX2_choose_5 : Nat → Int → Int → Int → Int → Int → V_ → Option (Int × V_)
  | 0, _, _, _, _, _, _ => none
  | n + 1, x0, x1, x2, x3, x4, v =>
    if (v x1 3) ≤ x4 then (
      some (x3, v))
    else (
      ck_ (0 ≤ x4 ∧ x4 < 34) (
      if (v (x0 + 1) x4) = (-1) then (
        ck_ (0 ≤ x4 ∧ x4 < 34) (
        if (v (x0 + 4) x4) = 0 then (
          ck_ (0 ≤ x4 ∧ x4 < 34) (
          if x2 < (v (x0 + 3) x4) then (
            fX2_choose_50 (fX2_choose_5 n) x0 x1 x2 x3 x4 v)
          else (
            fX2_choose_51 (fX2_choose_5 n) x0 x1 x2 x3 x4 1 v)))
        else (
          fX2_choose_50 (fX2_choose_5 n) x0 x1 x2 x3 x4 v)))
      else (
        fX2_choose_50 (fX2_choose_5 n) x0 x1 x2 x3 x4 v)))
def fX2_choose (x0 x1 x2 : Int) (v : V_) : Option (Int × V_) :=
  fX2_choose_5 fu_ x0 x1 x2 (-1) 0 v
section
variable {E : En_} {p : Program} {l : Launch} {e : Env} {s : State} {m : MethodId} {args : Array Value} {below : List Frame} {meth : Method} {c : Code} {sz : Int}
theorem tX2_choose_106 (C : MC_ E p s m c cX2_choose 6 RX2) (hr : meth.sig.returnType = (some FieldType.int)) (hlk : meth.locks = false) (hC : Cl_ E.2.2.2.2.2 sz) {out : Int × V_} (k5 : Int → Int → Int → Int → Int → V_ → Option (Int × V_)) (H_5 : ∀ (x0 x1 x2 x3 x4 : Int) (v : V_), (E.2.2.2.2.2 x0 ∧ ty_ x0 = 2 ∧ ln_ x0 = 0) → (E.2.2.2.2.2 x1 ∧ ty_ x1 = 10 ∧ ln_ x1 = 0) → k5 x0 x1 x2 x3 x4 v = some out → G_ E p l e (rm_ 1 20) s m args below meth c 6 sz (Q_ E below args s sz sz 0 out.1 out.2) 5 [(0, (2, x0)), (1, (2, x1)), (2, (0, x2)), (3, (0, x3)), (4, (0, x4))] [] v sz) (x0 x1 x2 x4 : Int) (v : V_) (T0 : (E.2.2.2.2.2 x0 ∧ ty_ x0 = 2 ∧ ln_ x0 = 0)) (T1 : (E.2.2.2.2.2 x1 ∧ ty_ x1 = 10 ∧ ln_ x1 = 0)) (h : fX2_choose_106 k5 x0 x1 x2 x4 v = some out) : G_ E p l e (rm_ 1 20) s m args below meth c 6 sz (Q_ E below args s sz sz 0 out.1 out.2) 106 [(0, (2, x0)), (1, (2, x1)), (2, (0, x2)), (4, (0, x4))] [] v sz := by
  rw [fX2_choose_106] at h
  refine g_iload C (i := 4) dX2_choose_106 3 rfl ?_
  refine g_istore_n C (f := 3) (ls' := [(3, (0, x4)), (0, (2, x0)), (1, (2, x1)), (2, (0, x2)), (4, (0, x4))]) dX2_choose_108 (by decide) rfl ?_
  obtain ⟨y17, ey17, h⟩ := lt_e h
  refine g_iincx C (ls' := [(4, (0, y17)), (3, (0, x4)), (0, (2, x0)), (1, (2, x1)), (2, (0, x2))]) ey17 dX2_choose_109 4 rfl (by decide) (by decide) rfl ?_
  refine g_goto C 5 dX2_choose_112 rfl ?_
  refine g_sub [2, 3, 4, 1, 0] rfl rfl ?_
  exact H_5 _ _ _ _ _ _ T0 T1 h
theorem tX2_choose_51 (C : MC_ E p s m c cX2_choose 6 RX2) (hr : meth.sig.returnType = (some FieldType.int)) (hlk : meth.locks = false) (hC : Cl_ E.2.2.2.2.2 sz) {out : Int × V_} (k5 : Int → Int → Int → Int → Int → V_ → Option (Int × V_)) (H_5 : ∀ (x0 x1 x2 x3 x4 : Int) (v : V_), (E.2.2.2.2.2 x0 ∧ ty_ x0 = 2 ∧ ln_ x0 = 0) → (E.2.2.2.2.2 x1 ∧ ty_ x1 = 10 ∧ ln_ x1 = 0) → k5 x0 x1 x2 x3 x4 v = some out → G_ E p l e (rm_ 1 20) s m args below meth c 6 sz (Q_ E below args s sz sz 0 out.1 out.2) 5 [(0, (2, x0)), (1, (2, x1)), (2, (0, x2)), (3, (0, x3)), (4, (0, x4))] [] v sz) (x0 x1 x2 x3 x4 s0 : Int) (v : V_) (T0 : (E.2.2.2.2.2 x0 ∧ ty_ x0 = 2 ∧ ln_ x0 = 0)) (T1 : (E.2.2.2.2.2 x1 ∧ ty_ x1 = 10 ∧ ln_ x1 = 0)) (h : fX2_choose_51 k5 x0 x1 x2 x3 x4 s0 v = some out) : G_ E p l e (rm_ 1 20) s m args below meth c 6 sz (Q_ E below args s sz sz 0 out.1 out.2) 51 [(0, (2, x0)), (1, (2, x1)), (2, (0, x2)), (3, (0, x3)), (4, (0, x4))] [(0, s0)] v sz := by
  rw [fX2_choose_51] at h
  refine g_istore C (i := 5) (ls' := [(5, (0, s0)), (0, (2, x0)), (1, (2, x1)), (2, (0, x2)), (3, (0, x3)), (4, (0, x4))]) dX2_choose_51 (by decide) rfl ?_
  refine g_iload C (i := 5) dX2_choose_53 0 rfl ?_
  refine g_if_eq C 109 dX2_choose_55 rfl (fun c5 => ?_) (fun c5 => ?_)
  · replace h := if_t h c5
    obtain ⟨y6, ey6, h⟩ := lt_e h
    refine g_iincx C (ls' := [(4, (0, y6)), (5, (0, s0)), (0, (2, x0)), (1, (2, x1)), (2, (0, x2)), (3, (0, x3))]) ey6 dX2_choose_109 5 rfl (by decide) (by decide) rfl ?_
    refine g_goto C 5 dX2_choose_112 rfl ?_
    refine g_sub [2, 3, 4, 5, 0] rfl rfl ?_
    exact H_5 _ _ _ _ _ _ T0 T1 h
  · replace h := if_f h c5
    refine g_aload_n C (f := 0) dX2_choose_58 1 rfl ?_
    have F7 := fX2_4 hC T0.1 T0.2.1
    refine g_getR C (k := 4) (o := 5) okX2 (by decide) kf_RX2_24 dX2_choose_59 hC T0.1 T0.2.1 rfl rfl ?_
    refine g_aload_n C (f := 1) dX2_choose_62 2 rfl ?_
    have F8 := fX10_2 hC T1.1 T1.2.1
    refine g_getR C (k := 2) (o := 2) okX10 (by decide) kf_RX2_58 dX2_choose_63 hC T1.1 T1.2.1 rfl rfl ?_
    refine g_iload C (i := 4) dX2_choose_66 5 rfl ?_
    obtain ⟨c9, h⟩ := ck_e h
    have F10 := fE_items (i := x4) hC F8.1 F8.2.1 F8.2.2 c9
    refine g_aald C 26 34 5 2 dX2_choose_68 hC F8.1 F8.2.1 F8.2.2 c9 (by decide) oA_items ?_
    have F11 := fX1_0 hC F10.1 F10.2.1
    refine g_getR C (k := 0) (o := 1) okX1 (by decide) kf_RX2_62 dX2_choose_69 hC F10.1 F10.2.1 rfl rfl ?_
    obtain ⟨q12, eq12, h⟩ := bd_e h
    refine g_cV C [] (cX8_kindOf_ok l hC F11 eq12) okX8 F11.2.1 (rg_ hC F11.1) km_RX2_68 cv_X8_kindOf rfl (by decide) rfl rfl (Nat.le_of_ble_eq_true rfl) dX2_choose_72 ?_
    obtain ⟨c13, h⟩ := ck_e h
    refine g_iald C 4 dX2_choose_75 (rg_ hC F7.1) F7.2.1 F7.2.2 c13 ?_
    refine g_if_le C 109 dX2_choose_76 rfl (fun c14 => ?_) (fun c14 => ?_)
    · replace h := if_t h c14
      obtain ⟨y15, ey15, h⟩ := lt_e h
      refine g_iincx C (ls' := [(4, (0, y15)), (5, (0, s0)), (0, (2, x0)), (1, (2, x1)), (2, (0, x2)), (3, (0, x3))]) ey15 dX2_choose_109 5 rfl (by decide) (by decide) rfl ?_
      refine g_goto C 5 dX2_choose_112 rfl ?_
      refine g_sub [2, 3, 4, 5, 0] rfl rfl ?_
      exact H_5 _ _ _ _ _ _ T0 T1 h
    · replace h := if_f h c14
      refine g_iload_n C (f := 3) dX2_choose_79 4 rfl ?_
      refine g_iconst C (n := (-1)) dX2_choose_80 (by decide) ?_
      refine g_icmp_eq C 106 dX2_choose_81 rfl (fun c16 => ?_) (fun c16 => ?_)
      · replace h := if_t h c16
        refine g_sub [1, 2, 3, 5] rfl rfl ?_
        exact tX2_choose_106 C hr hlk hC _ H_5 _ _ _ _ _ T0 T1 h
      · replace h := if_f h c16
        refine g_aload_n C (f := 1) dX2_choose_84 2 rfl ?_
        have F18 := fX10_2 hC T1.1 T1.2.1
        refine g_getR C (k := 2) (o := 2) okX10 (by decide) kf_RX2_58 dX2_choose_85 hC T1.1 T1.2.1 rfl rfl ?_
        refine g_iload C (i := 4) dX2_choose_88 5 rfl ?_
        obtain ⟨c19, h⟩ := ck_e h
        have F20 := fE_items (i := x4) hC F18.1 F18.2.1 F18.2.2 c19
        refine g_aald C 26 34 5 2 dX2_choose_90 hC F18.1 F18.2.1 F18.2.2 c19 (by decide) oA_items ?_
        refine g_getf C (k := 8) (kd := 0) okX1 (by decide) kf_RX2_74 dX2_choose_91 (rg_ hC F20.1) F20.2.1 rfl ?_
        refine g_aload_n C (f := 1) dX2_choose_94 2 rfl ?_
        have F21 := fX10_2 hC T1.1 T1.2.1
        refine g_getR C (k := 2) (o := 2) okX10 (by decide) kf_RX2_58 dX2_choose_95 hC T1.1 T1.2.1 rfl rfl ?_
        refine g_iload_n C (f := 3) dX2_choose_98 4 rfl ?_
        obtain ⟨c22, h⟩ := ck_e h
        have F23 := fE_items (i := x3) hC F21.1 F21.2.1 F21.2.2 c22
        refine g_aald C 26 34 5 2 dX2_choose_99 hC F21.1 F21.2.1 F21.2.2 c22 (by decide) oA_items ?_
        refine g_getf C (k := 8) (kd := 0) okX1 (by decide) kf_RX2_74 dX2_choose_100 (rg_ hC F23.1) F23.2.1 rfl ?_
        refine g_icmp_le C 109 dX2_choose_103 rfl (fun c24 => ?_) (fun c24 => ?_)
        · replace h := if_t h c24
          obtain ⟨y25, ey25, h⟩ := lt_e h
          refine g_iincx C (ls' := [(4, (0, y25)), (5, (0, s0)), (0, (2, x0)), (1, (2, x1)), (2, (0, x2)), (3, (0, x3))]) ey25 dX2_choose_109 5 rfl (by decide) (by decide) rfl ?_
          refine g_goto C 5 dX2_choose_112 rfl ?_
          refine g_sub [2, 3, 4, 5, 0] rfl rfl ?_
          exact H_5 _ _ _ _ _ _ T0 T1 h
        · replace h := if_f h c24
          refine g_sub [1, 2, 3, 5] rfl rfl ?_
          exact tX2_choose_106 C hr hlk hC _ H_5 _ _ _ _ _ T0 T1 h
theorem tX2_choose_50 (C : MC_ E p s m c cX2_choose 6 RX2) (hr : meth.sig.returnType = (some FieldType.int)) (hlk : meth.locks = false) (hC : Cl_ E.2.2.2.2.2 sz) {out : Int × V_} (k5 : Int → Int → Int → Int → Int → V_ → Option (Int × V_)) (H_5 : ∀ (x0 x1 x2 x3 x4 : Int) (v : V_), (E.2.2.2.2.2 x0 ∧ ty_ x0 = 2 ∧ ln_ x0 = 0) → (E.2.2.2.2.2 x1 ∧ ty_ x1 = 10 ∧ ln_ x1 = 0) → k5 x0 x1 x2 x3 x4 v = some out → G_ E p l e (rm_ 1 20) s m args below meth c 6 sz (Q_ E below args s sz sz 0 out.1 out.2) 5 [(0, (2, x0)), (1, (2, x1)), (2, (0, x2)), (3, (0, x3)), (4, (0, x4))] [] v sz) (x0 x1 x2 x3 x4 : Int) (v : V_) (T0 : (E.2.2.2.2.2 x0 ∧ ty_ x0 = 2 ∧ ln_ x0 = 0)) (T1 : (E.2.2.2.2.2 x1 ∧ ty_ x1 = 10 ∧ ln_ x1 = 0)) (h : fX2_choose_50 k5 x0 x1 x2 x3 x4 v = some out) : G_ E p l e (rm_ 1 20) s m args below meth c 6 sz (Q_ E below args s sz sz 0 out.1 out.2) 50 [(0, (2, x0)), (1, (2, x1)), (2, (0, x2)), (3, (0, x3)), (4, (0, x4))] [] v sz := by
  rw [fX2_choose_50] at h
  refine g_iconst C (n := 0) dX2_choose_50 (by decide) ?_
  refine g_sub [0, 1, 2, 3, 4] rfl rfl ?_
  exact tX2_choose_51 C hr hlk hC _ H_5 _ _ _ _ _ _ _ T0 T1 h
theorem tX2_choose_5 (C : MC_ E p s m c cX2_choose 6 RX2) (hr : meth.sig.returnType = (some FieldType.int)) (hlk : meth.locks = false) (hC : Cl_ E.2.2.2.2.2 sz) {out : Int × V_} : ∀ (n : Nat) (x0 x1 x2 x3 x4 : Int) (v : V_), (E.2.2.2.2.2 x0 ∧ ty_ x0 = 2 ∧ ln_ x0 = 0) → (E.2.2.2.2.2 x1 ∧ ty_ x1 = 10 ∧ ln_ x1 = 0) → fX2_choose_5 n x0 x1 x2 x3 x4 v = some out → G_ E p l e (rm_ 1 20) s m args below meth c 6 sz (Q_ E below args s sz sz 0 out.1 out.2) 5 [(0, (2, x0)), (1, (2, x1)), (2, (0, x2)), (3, (0, x3)), (4, (0, x4))] [] v sz := by
  intro n
  induction n with
  | zero =>
    intro x0 x1 x2 x3 x4 v T0 T1 h
    cases h
  | succ n H_5 =>
    intro x0 x1 x2 x3 x4 v T0 T1 h
    rw [fX2_choose_5] at h
    refine g_iload C (i := 4) dX2_choose_5 4 rfl ?_
    refine g_aload_n C (f := 1) dX2_choose_7 1 rfl ?_
    refine g_getf C (k := 3) (kd := 0) okX10 (by decide) kf_RX2_35 dX2_choose_8 (rg_ hC T1.1) T1.2.1 rfl ?_
    refine g_icmp_ge C 115 dX2_choose_11 rfl (fun c1 => ?_) (fun c1 => ?_)
    · replace h := if_t h c1
      refine g_iload_n C (f := 3) dX2_choose_115 3 rfl ?_
      cases h
      exact g_iret C dX2_choose_116 hr hlk
    · replace h := if_f h c1
      refine g_aload_n C (f := 0) dX2_choose_14 0 rfl ?_
      have F2 := fX2_0 hC T0.1 T0.2.1
      refine g_getR C (k := 0) (o := 1) okX2 (by decide) kf_RX2_9 dX2_choose_15 hC T0.1 T0.2.1 rfl rfl ?_
      refine g_iload C (i := 4) dX2_choose_18 4 rfl ?_
      obtain ⟨c3, h⟩ := ck_e h
      refine g_iald C 34 dX2_choose_20 (rg_ hC F2.1) F2.2.1 F2.2.2 c3 ?_
      refine g_iconst C (n := (-1)) dX2_choose_21 (by decide) ?_
      refine g_icmp_ne C 50 dX2_choose_22 rfl (fun c4 => ?_) (fun c4 => ?_)
      · replace h := if_f h c4
        refine g_sub [0, 1, 2, 3, 4] rfl rfl ?_
        exact tX2_choose_50 C hr hlk hC _ H_5 _ _ _ _ _ _ T0 T1 h
      · replace h := if_t h c4
        refine g_aload_n C (f := 0) dX2_choose_25 0 rfl ?_
        have F26 := fX2_3 hC T0.1 T0.2.1
        refine g_getR C (k := 3) (o := 4) okX2 (by decide) kf_RX2_21 dX2_choose_26 hC T0.1 T0.2.1 rfl rfl ?_
        refine g_iload C (i := 4) dX2_choose_29 4 rfl ?_
        obtain ⟨c27, h⟩ := ck_e h
        refine g_iald C 34 dX2_choose_31 (rg_ hC F26.1) F26.2.1 F26.2.2 c27 ?_
        refine g_if_ne C 50 dX2_choose_32 rfl (fun c28 => ?_) (fun c28 => ?_)
        · replace h := if_f h c28
          refine g_sub [0, 1, 2, 3, 4] rfl rfl ?_
          exact tX2_choose_50 C hr hlk hC _ H_5 _ _ _ _ _ _ T0 T1 h
        · replace h := if_t h c28
          refine g_aload_n C (f := 0) dX2_choose_35 0 rfl ?_
          have F29 := fX2_2 hC T0.1 T0.2.1
          refine g_getR C (k := 2) (o := 3) okX2 (by decide) kf_RX2_18 dX2_choose_36 hC T0.1 T0.2.1 rfl rfl ?_
          refine g_iload C (i := 4) dX2_choose_39 4 rfl ?_
          obtain ⟨c30, h⟩ := ck_e h
          refine g_iald C 34 dX2_choose_41 (rg_ hC F29.1) F29.2.1 F29.2.2 c30 ?_
          refine g_iload_n C (f := 2) dX2_choose_42 2 rfl ?_
          refine g_icmp_gt C 50 dX2_choose_43 rfl (fun c31 => ?_) (fun c31 => ?_)
          · replace h := if_t h c31
            refine g_sub [0, 1, 2, 3, 4] rfl rfl ?_
            exact tX2_choose_50 C hr hlk hC _ H_5 _ _ _ _ _ _ T0 T1 h
          · replace h := if_f h c31
            refine g_iconst C (n := 1) dX2_choose_46 (by decide) ?_
            refine g_goto C 51 dX2_choose_47 rfl ?_
            refine g_sub [0, 1, 2, 3, 4] rfl rfl ?_
            exact tX2_choose_51 C hr hlk hC _ H_5 _ _ _ _ _ _ _ T0 T1 h
end
theorem cX2_choose_ok (l : Launch) {E : En_} {sz : Int} (hC : Cl_ E.2.2.2.2.2 sz) {x0 x1 x2 : Int} {v : V_} {out : Int × V_} (T0 : (E.2.2.2.2.2 x0 ∧ ty_ x0 = 2 ∧ ln_ x0 = 0)) (T1 : (E.2.2.2.2.2 x1 ∧ ty_ x1 = 10 ∧ ln_ x1 = 0)) (h : fX2_choose x0 x1 x2 v = some out) : Met l yX2_choose [.code yX2_choose cX2_choose 6 (some FieldType.int)] (rm_ 1 20) (Pc_ E sz v [(2, x0), (2, x1), (0, x2)]) (Qc_ E sz 0 out.1 out.2) 0 0 (fun q => E.1 < q) := by
  refine met_G0 RX2 (by decide +kernel) rfl (Nat.le_of_ble_eq_true rfl) ?_
  intro p e s m args below meth c C hr hlk
  rw [fX2_choose] at h
  refine g_iconst C (n := (-1)) dX2_choose_0 (by decide) ?_
  refine g_istore_n C (f := 3) (ls' := [(3, (0, (-1))), (0, (2, x0)), (1, (2, x1)), (2, (0, x2))]) dX2_choose_1 (by decide) rfl ?_
  refine g_iconst C (n := 0) dX2_choose_2 (by decide) ?_
  refine g_istore C (i := 4) (ls' := [(4, (0, 0)), (3, (0, (-1))), (0, (2, x0)), (1, (2, x1)), (2, (0, x2))]) dX2_choose_3 (by decide) rfl ?_
  refine g_sub [2, 3, 4, 1, 0] rfl rfl ?_
  exact tX2_choose_5 C hr hlk hC _ _ _ _ _ _ _ T0 T1 h
