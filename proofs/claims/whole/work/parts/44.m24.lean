theorem dX12_setsItem_0 : decode cX12_setsItem 0 = .ok (.aload_n 0, 1) := by decide +kernel
theorem dX12_setsItem_1 : decode cX12_setsItem 1 = .ok (.bipush 34, 2) := by decide +kernel
theorem dX12_setsItem_3 : decode cX12_setsItem 3 = .ok (.iload_n 1, 1) := by decide +kernel
theorem dX12_setsItem_4 : decode cX12_setsItem 4 = .ok (.imul, 1) := by decide +kernel
theorem dX12_setsItem_5 : decode cX12_setsItem 5 = .ok (.iload_n 2, 1) := by decide +kernel
theorem dX12_setsItem_6 : decode cX12_setsItem 6 = .ok (.iadd, 1) := by decide +kernel
theorem dX12_setsItem_7 : decode cX12_setsItem 7 = .ok (.invokevirtual 500, 3) := by decide +kernel
theorem dX12_setsItem_10 : decode cX12_setsItem 10 = .ok (.ifCond .eq 4, 3) := by decide +kernel
theorem dX12_setsItem_13 : decode cX12_setsItem 13 = .ok (.return_, 1) := by decide +kernel
theorem dX12_setsItem_14 : decode cX12_setsItem 14 = .ok (.aload_n 0, 1) := by decide +kernel
theorem dX12_setsItem_15 : decode cX12_setsItem 15 = .ok (.aload_n 0, 1) := by decide +kernel
theorem dX12_setsItem_16 : decode cX12_setsItem 16 = .ok (.getfield 166, 3) := by decide +kernel
theorem dX12_setsItem_19 : decode cX12_setsItem 19 = .ok (.iload_n 2, 1) := by decide +kernel
theorem dX12_setsItem_20 : decode cX12_setsItem 20 = .ok (.iaload, 1) := by decide +kernel
theorem dX12_setsItem_21 : decode cX12_setsItem 21 = .ok (.putfield 350, 3) := by decide +kernel
theorem dX12_setsItem_24 : decode cX12_setsItem 24 = .ok (.aload_n 0, 1) := by decide +kernel
theorem dX12_setsItem_25 : decode cX12_setsItem 25 = .ok (.aload_n 0, 1) := by decide +kernel
theorem dX12_setsItem_26 : decode cX12_setsItem 26 = .ok (.getfield 169, 3) := by decide +kernel
theorem dX12_setsItem_29 : decode cX12_setsItem 29 = .ok (.iload_n 2, 1) := by decide +kernel
theorem dX12_setsItem_30 : decode cX12_setsItem 30 = .ok (.iaload, 1) := by decide +kernel
theorem dX12_setsItem_31 : decode cX12_setsItem 31 = .ok (.putfield 347, 3) := by decide +kernel
theorem dX12_setsItem_34 : decode cX12_setsItem 34 = .ok (.aload_n 0, 1) := by decide +kernel
theorem dX12_setsItem_35 : decode cX12_setsItem 35 = .ok (.aload_n 0, 1) := by decide +kernel
theorem dX12_setsItem_36 : decode cX12_setsItem 36 = .ok (.getfield 136, 3) := by decide +kernel
theorem dX12_setsItem_39 : decode cX12_setsItem 39 = .ok (.bipush 34, 2) := by decide +kernel
theorem dX12_setsItem_41 : decode cX12_setsItem 41 = .ok (.iload_n 1, 1) := by decide +kernel
theorem dX12_setsItem_42 : decode cX12_setsItem 42 = .ok (.imul, 1) := by decide +kernel
theorem dX12_setsItem_43 : decode cX12_setsItem 43 = .ok (.iload_n 2, 1) := by decide +kernel
theorem dX12_setsItem_44 : decode cX12_setsItem 44 = .ok (.iadd, 1) := by decide +kernel
theorem dX12_setsItem_45 : decode cX12_setsItem 45 = .ok (.iaload, 1) := by decide +kernel
theorem dX12_setsItem_46 : decode cX12_setsItem 46 = .ok (.invokevirtual 369, 3) := by decide +kernel
theorem dX12_setsItem_49 : decode cX12_setsItem 49 = .ok (.return_, 1) := by decide +kernel
def fX12_setsItem (x0 x1 x2 : Int) (v : V_) : Option (Int × V_) :=
  bd_ (fX12_isEnd x0 (wr_ ((wr_ (34 * x1)) + x2)) v) fun q1 =>
  if q1.1 = 0 then (
    ck_ (0 ≤ x2 ∧ x2 < 34) (
    lt_ (up_ q1.2 x0 40 (q1.2 (x0 + 50) x2)) fun v5 =>
    ck_ (0 ≤ x2 ∧ x2 < 34) (
    lt_ (up_ v5 x0 41 (v5 (x0 + 51) x2)) fun v8 =>
    ck_ (0 ≤ wr_ ((wr_ (34 * x1)) + x2) ∧ wr_ ((wr_ (34 * x1)) + x2) < 272) (
    bd_ (fX12_sets x0 (v8 (x0 + 40) (wr_ ((wr_ (34 * x1)) + x2))) v8) fun q11 =>
    some (0, q11.2)))))
  else (
    some (0, q1.2))
theorem cX12_setsItem_ok (l : Launch) {E : En_} {sz : Int} (hC : Cl_ E.2.2.2.2.2 sz) {x0 x1 x2 : Int} {v : V_} {out : Int × V_} (T0 : (E.2.2.2.2.2 x0 ∧ ty_ x0 = 12 ∧ ln_ x0 = 0)) (h : fX12_setsItem x0 x1 x2 v = some out) : Met l yX12_setsItem [.code yX12_setsItem cX12_setsItem 3 (none : Option FieldType)] (rm_ 1 21) (Pc_ E sz v [(2, x0), (0, x1), (0, x2)]) (Qc_ E sz 9 out.1 out.2) 0 0 (fun q => E.1 < q) := by
  refine met_G0 RX12 (by decide +kernel) rfl (Nat.le_of_ble_eq_true rfl) ?_
  intro p e s m args below meth c C hr hlk
  rw [fX12_setsItem] at h
  refine g_aload_n C (f := 0) dX12_setsItem_0 0 rfl ?_
  refine g_bipush C (n := 34) dX12_setsItem_1 (by decide) ?_
  refine g_iload_n C (f := 1) dX12_setsItem_3 1 rfl ?_
  refine g_imul C dX12_setsItem_4 ?_
  refine g_iload_n C (f := 2) dX12_setsItem_5 2 rfl ?_
  refine g_iadd C dX12_setsItem_6 ?_
  obtain ⟨q1, eq1, h⟩ := bd_e h
  refine g_cV C [(0, wr_ ((wr_ (34 * x1)) + x2))] (cX12_isEnd_ok l hC T0 eq1) okX12 T0.2.1 (rg_ hC T0.1) km_RX12_500 cv_X12_isEnd rfl (by decide) rfl rfl (Nat.le_of_ble_eq_true rfl) dX12_setsItem_7 ?_
  refine g_if_eq C 14 dX12_setsItem_10 rfl (fun c2 => ?_) (fun c2 => ?_)
  · replace h := if_t h c2
    refine g_aload_n C (f := 0) dX12_setsItem_14 0 rfl ?_
    refine g_aload_n C (f := 0) dX12_setsItem_15 0 rfl ?_
    have F3 := fX12_70 hC T0.1 T0.2.1
    refine g_getR C (k := 70) (o := 50) okX12 (by decide) kf_RX12_166 dX12_setsItem_16 hC T0.1 T0.2.1 rfl rfl ?_
    refine g_iload_n C (f := 2) dX12_setsItem_19 2 rfl ?_
    obtain ⟨c4, h⟩ := ck_e h
    refine g_iald C 34 dX12_setsItem_20 (rg_ hC F3.1) F3.2.1 F3.2.2 c4 ?_
    obtain ⟨v5, ev5, h⟩ := lt_e h
    refine g_putf C (k := 40) (kd := 0) okX12 (by decide) kf_RX12_350 dX12_setsItem_21 (rg_ hC T0.1) T0.2.1 rfl rfl nvI (Or.inl rfl) v5 ev5 ?_
    refine g_aload_n C (f := 0) dX12_setsItem_24 0 rfl ?_
    refine g_aload_n C (f := 0) dX12_setsItem_25 0 rfl ?_
    have F6 := fX12_71 hC T0.1 T0.2.1
    refine g_getR C (k := 71) (o := 51) okX12 (by decide) kf_RX12_169 dX12_setsItem_26 hC T0.1 T0.2.1 rfl rfl ?_
    refine g_iload_n C (f := 2) dX12_setsItem_29 2 rfl ?_
    obtain ⟨c7, h⟩ := ck_e h
    refine g_iald C 34 dX12_setsItem_30 (rg_ hC F6.1) F6.2.1 F6.2.2 c7 ?_
    obtain ⟨v8, ev8, h⟩ := lt_e h
    refine g_putf C (k := 41) (kd := 0) okX12 (by decide) kf_RX12_347 dX12_setsItem_31 (rg_ hC T0.1) T0.2.1 rfl rfl nvI (Or.inl rfl) v8 ev8 ?_
    refine g_aload_n C (f := 0) dX12_setsItem_34 0 rfl ?_
    refine g_aload_n C (f := 0) dX12_setsItem_35 0 rfl ?_
    have F9 := fX12_59 hC T0.1 T0.2.1
    refine g_getR C (k := 59) (o := 40) okX12 (by decide) kf_RX12_136 dX12_setsItem_36 hC T0.1 T0.2.1 rfl rfl ?_
    refine g_bipush C (n := 34) dX12_setsItem_39 (by decide) ?_
    refine g_iload_n C (f := 1) dX12_setsItem_41 1 rfl ?_
    refine g_imul C dX12_setsItem_42 ?_
    refine g_iload_n C (f := 2) dX12_setsItem_43 2 rfl ?_
    refine g_iadd C dX12_setsItem_44 ?_
    obtain ⟨c10, h⟩ := ck_e h
    refine g_iald C 272 dX12_setsItem_45 (rg_ hC F9.1) F9.2.1 F9.2.2 c10 ?_
    obtain ⟨q11, eq11, h⟩ := bd_e h
    refine g_cV C [(0, v8 (x0 + 40) (wr_ ((wr_ (34 * x1)) + x2)))] (cX12_sets_ok l hC T0 eq11) okX12 T0.2.1 (rg_ hC T0.1) km_RX12_369 cv_X12_sets rfl (by decide) rfl rfl (Nat.le_of_ble_eq_true rfl) dX12_setsItem_46 ?_
    cases h
    exact g_vret C dX12_setsItem_49 hr hlk
  · replace h := if_f h c2
    cases h
    exact g_vret C dX12_setsItem_13 hr hlk
theorem dX12_copiedDone_0 : decode cX12_copiedDone 0 = .ok (.iconst 0, 1) := by decide +kernel
theorem dX12_copiedDone_1 : decode cX12_copiedDone 1 = .ok (.istore_n 3, 1) := by decide +kernel
theorem dX12_copiedDone_2 : decode cX12_copiedDone 2 = .ok (.iload_n 3, 1) := by decide +kernel
theorem dX12_copiedDone_3 : decode cX12_copiedDone 3 = .ok (.iload_n 2, 1) := by decide +kernel
theorem dX12_copiedDone_4 : decode cX12_copiedDone 4 = .ok (.if_icmp .ge 64, 3) := by decide +kernel
theorem dX12_copiedDone_7 : decode cX12_copiedDone 7 = .ok (.aload_n 0, 1) := by decide +kernel
theorem dX12_copiedDone_8 : decode cX12_copiedDone 8 = .ok (.iload_n 1, 1) := by decide +kernel
theorem dX12_copiedDone_9 : decode cX12_copiedDone 9 = .ok (.iload_n 2, 1) := by decide +kernel
theorem dX12_copiedDone_10 : decode cX12_copiedDone 10 = .ok (.iload_n 3, 1) := by decide +kernel
theorem dX12_copiedDone_11 : decode cX12_copiedDone 11 = .ok (.invokevirtual 497, 3) := by decide +kernel
theorem dX12_copiedDone_14 : decode cX12_copiedDone 14 = .ok (.ifCond .ne 6, 3) := by decide +kernel
theorem dX12_copiedDone_17 : decode cX12_copiedDone 17 = .ok (.goto 45, 3) := by decide +kernel
theorem dX12_copiedDone_20 : decode cX12_copiedDone 20 = .ok (.aload_n 0, 1) := by decide +kernel
theorem dX12_copiedDone_21 : decode cX12_copiedDone 21 = .ok (.iload_n 1, 1) := by decide +kernel
theorem dX12_copiedDone_22 : decode cX12_copiedDone 22 = .ok (.iload_n 3, 1) := by decide +kernel
theorem dX12_copiedDone_23 : decode cX12_copiedDone 23 = .ok (.invokevirtual 506, 3) := by decide +kernel
theorem dX12_copiedDone_26 : decode cX12_copiedDone 26 = .ok (.aload_n 0, 1) := by decide +kernel
theorem dX12_copiedDone_27 : decode cX12_copiedDone 27 = .ok (.getfield 172, 3) := by decide +kernel
theorem dX12_copiedDone_30 : decode cX12_copiedDone 30 = .ok (.iload_n 3, 1) := by decide +kernel
theorem dX12_copiedDone_31 : decode cX12_copiedDone 31 = .ok (.baload, 1) := by decide +kernel
theorem dX12_copiedDone_32 : decode cX12_copiedDone 32 = .ok (.ifCond .eq 5, 3) := by decide +kernel
theorem dX12_copiedDone_35 : decode cX12_copiedDone 35 = .ok (.iconst 0, 1) := by decide +kernel
theorem dX12_copiedDone_36 : decode cX12_copiedDone 36 = .ok (.ireturn, 1) := by decide +kernel
theorem dX12_copiedDone_37 : decode cX12_copiedDone 37 = .ok (.aload_n 0, 1) := by decide +kernel
theorem dX12_copiedDone_38 : decode cX12_copiedDone 38 = .ok (.iload_n 1, 1) := by decide +kernel
theorem dX12_copiedDone_39 : decode cX12_copiedDone 39 = .ok (.iload_n 3, 1) := by decide +kernel
theorem dX12_copiedDone_40 : decode cX12_copiedDone 40 = .ok (.invokevirtual 512, 3) := by decide +kernel
theorem dX12_copiedDone_43 : decode cX12_copiedDone 43 = .ok (.aload_n 0, 1) := by decide +kernel
theorem dX12_copiedDone_44 : decode cX12_copiedDone 44 = .ok (.dup, 1) := by decide +kernel
theorem dX12_copiedDone_45 : decode cX12_copiedDone 45 = .ok (.getfield 353, 3) := by decide +kernel
theorem dX12_copiedDone_48 : decode cX12_copiedDone 48 = .ok (.aload_n 0, 1) := by decide +kernel
theorem dX12_copiedDone_49 : decode cX12_copiedDone 49 = .ok (.bipush 34, 2) := by decide +kernel
theorem dX12_copiedDone_51 : decode cX12_copiedDone 51 = .ok (.iload_n 1, 1) := by decide +kernel
theorem dX12_copiedDone_52 : decode cX12_copiedDone 52 = .ok (.imul, 1) := by decide +kernel
theorem dX12_copiedDone_53 : decode cX12_copiedDone 53 = .ok (.iload_n 3, 1) := by decide +kernel
theorem dX12_copiedDone_54 : decode cX12_copiedDone 54 = .ok (.iadd, 1) := by decide +kernel
theorem dX12_copiedDone_55 : decode cX12_copiedDone 55 = .ok (.invokevirtual 455, 3) := by decide +kernel
theorem dX12_copiedDone_58 : decode cX12_copiedDone 58 = .ok (.iadd, 1) := by decide +kernel
theorem dX12_copiedDone_59 : decode cX12_copiedDone 59 = .ok (.putfield 353, 3) := by decide +kernel
theorem dX12_copiedDone_62 : decode cX12_copiedDone 62 = .ok (.iinc 3 1, 3) := by decide +kernel
theorem dX12_copiedDone_65 : decode cX12_copiedDone 65 = .ok (.goto (-63), 3) := by decide +kernel
theorem dX12_copiedDone_68 : decode cX12_copiedDone 68 = .ok (.iconst 1, 1) := by decide +kernel
theorem dX12_copiedDone_69 : decode cX12_copiedDone 69 = .ok (.ireturn, 1) := by decide +kernel
def fX12_copiedDone_2 : Nat → Int → Int → Int → Int → V_ → Option (Int × V_)
  | 0, _, _, _, _, _ => none
  | n + 1, x0, x1, x2, x3, v =>
    if x2 ≤ x3 then (
      some (1, v))
    else (
      bd_ (fX12_isCopied x0 x1 x2 x3 v) fun q2 =>
      if q2.1 = 0 then (
        lt_ (wr_ (x3 + 1)) fun y12 =>
        (fX12_copiedDone_2 n) x0 x1 x2 y12 q2.2)
      else (
        bd_ (fX12_readsItem x0 x1 x3 q2.2) fun q4 =>
        ck_ (0 ≤ x3 ∧ x3 < 34) (
        if (q4.2 (x0 + 52) x3) = 0 then (
          bd_ (fX12_setsItem x0 x1 x3 q4.2) fun q8 =>
          bd_ (fX12_takesItem x0 (wr_ ((wr_ (34 * x1)) + x3)) q8.2) fun q9 =>
          lt_ (up_ q9.2 x0 45 (wr_ ((q8.2 x0 45) + q9.1))) fun v10 =>
          lt_ (wr_ (x3 + 1)) fun y11 =>
          (fX12_copiedDone_2 n) x0 x1 x2 y11 v10)
        else (
          some (0, q4.2)))))
def fX12_copiedDone (x0 x1 x2 : Int) (v : V_) : Option (Int × V_) :=
  fX12_copiedDone_2 fu_ x0 x1 x2 0 v
section
variable {E : En_} {p : Program} {l : Launch} {e : Env} {s : State} {m : MethodId} {args : Array Value} {below : List Frame} {meth : Method} {c : Code} {sz : Int}
theorem tX12_copiedDone_2 (C : MC_ E p s m c cX12_copiedDone 4 RX12) (hr : meth.sig.returnType = (some FieldType.boolean)) (hlk : meth.locks = false) (hC : Cl_ E.2.2.2.2.2 sz) {out : Int × V_} : ∀ (n : Nat) (x0 x1 x2 x3 : Int) (v : V_), (E.2.2.2.2.2 x0 ∧ ty_ x0 = 12 ∧ ln_ x0 = 0) → fX12_copiedDone_2 n x0 x1 x2 x3 v = some out → G_ E p l e (rm_ 3 71) s m args below meth c 4 sz (Q_ E below args s sz sz 0 out.1 out.2) 2 [(0, (2, x0)), (1, (0, x1)), (2, (0, x2)), (3, (0, x3))] [] v sz := by
  intro n
  induction n with
  | zero =>
    intro x0 x1 x2 x3 v T0 h
    cases h
  | succ n H_2 =>
    intro x0 x1 x2 x3 v T0 h
    rw [fX12_copiedDone_2] at h
    refine g_iload_n C (f := 3) dX12_copiedDone_2 3 rfl ?_
    refine g_iload_n C (f := 2) dX12_copiedDone_3 2 rfl ?_
    refine g_icmp_ge C 68 dX12_copiedDone_4 rfl (fun c1 => ?_) (fun c1 => ?_)
    · replace h := if_t h c1
      refine g_iconst C (n := 1) dX12_copiedDone_68 (by decide) ?_
      cases h
      exact g_zret C dX12_copiedDone_69 hr hlk (Or.inr rfl)
    · replace h := if_f h c1
      refine g_aload_n C (f := 0) dX12_copiedDone_7 0 rfl ?_
      refine g_iload_n C (f := 1) dX12_copiedDone_8 1 rfl ?_
      refine g_iload_n C (f := 2) dX12_copiedDone_9 2 rfl ?_
      refine g_iload_n C (f := 3) dX12_copiedDone_10 3 rfl ?_
      obtain ⟨q2, eq2, h⟩ := bd_e h
      refine g_cV C [(0, x1), (0, x2), (0, x3)] (cX12_isCopied_ok l hC T0 eq2) okX12 T0.2.1 (rg_ hC T0.1) km_RX12_497 cv_X12_isCopied rfl (by decide) rfl rfl (Nat.le_of_ble_eq_true rfl) dX12_copiedDone_11 ?_
      refine g_if_ne C 20 dX12_copiedDone_14 rfl (fun c3 => ?_) (fun c3 => ?_)
      · replace h := if_f h c3
        refine g_aload_n C (f := 0) dX12_copiedDone_20 0 rfl ?_
        refine g_iload_n C (f := 1) dX12_copiedDone_21 1 rfl ?_
        refine g_iload_n C (f := 3) dX12_copiedDone_22 3 rfl ?_
        obtain ⟨q4, eq4, h⟩ := bd_e h
        refine g_cV C [(0, x1), (0, x3)] (cX12_readsItem_ok l hC T0 eq4) okX12 T0.2.1 (rg_ hC T0.1) km_RX12_506 cv_X12_readsItem rfl (by decide) rfl rfl (Nat.le_of_ble_eq_true rfl) dX12_copiedDone_23 ?_
        refine g_aload_n C (f := 0) dX12_copiedDone_26 0 rfl ?_
        have F5 := fX12_72 hC T0.1 T0.2.1
        refine g_getR C (k := 72) (o := 52) okX12 (by decide) kf_RX12_172 dX12_copiedDone_27 hC T0.1 T0.2.1 rfl rfl ?_
        refine g_iload_n C (f := 3) dX12_copiedDone_30 3 rfl ?_
        obtain ⟨c6, h⟩ := ck_e h
        refine g_zald C 34 dX12_copiedDone_31 (rg_ hC F5.1) F5.2.1 F5.2.2 c6 ?_
        refine g_if_eq C 37 dX12_copiedDone_32 rfl (fun c7 => ?_) (fun c7 => ?_)
        · replace h := if_t h c7
          refine g_aload_n C (f := 0) dX12_copiedDone_37 0 rfl ?_
          refine g_iload_n C (f := 1) dX12_copiedDone_38 1 rfl ?_
          refine g_iload_n C (f := 3) dX12_copiedDone_39 3 rfl ?_
          obtain ⟨q8, eq8, h⟩ := bd_e h
          refine g_cV C [(0, x1), (0, x3)] (cX12_setsItem_ok l hC T0 eq8) okX12 T0.2.1 (rg_ hC T0.1) km_RX12_512 cv_X12_setsItem rfl (by decide) rfl rfl (Nat.le_of_ble_eq_true rfl) dX12_copiedDone_40 ?_
          refine g_aload_n C (f := 0) dX12_copiedDone_43 0 rfl ?_
          refine g_dup C (Nat.ne_of_beq_eq_false rfl) dX12_copiedDone_44 ?_
          refine g_getf C (k := 45) (kd := 0) okX12 (by decide) kf_RX12_353 dX12_copiedDone_45 (rg_ hC T0.1) T0.2.1 rfl ?_
          refine g_aload_n C (f := 0) dX12_copiedDone_48 0 rfl ?_
          refine g_bipush C (n := 34) dX12_copiedDone_49 (by decide) ?_
          refine g_iload_n C (f := 1) dX12_copiedDone_51 1 rfl ?_
          refine g_imul C dX12_copiedDone_52 ?_
          refine g_iload_n C (f := 3) dX12_copiedDone_53 3 rfl ?_
          refine g_iadd C dX12_copiedDone_54 ?_
          obtain ⟨q9, eq9, h⟩ := bd_e h
          refine g_cV C [(0, wr_ ((wr_ (34 * x1)) + x3))] (cX12_takesItem_ok l hC T0 eq9) okX12 T0.2.1 (rg_ hC T0.1) km_RX12_455 cv_X12_takesItem rfl (by decide) rfl rfl (Nat.le_of_ble_eq_true rfl) dX12_copiedDone_55 ?_
          refine g_iadd C dX12_copiedDone_58 ?_
          obtain ⟨v10, ev10, h⟩ := lt_e h
          refine g_putf C (k := 45) (kd := 0) okX12 (by decide) kf_RX12_353 dX12_copiedDone_59 (rg_ hC T0.1) T0.2.1 rfl rfl nvI (Or.inl rfl) v10 ev10 ?_
          obtain ⟨y11, ey11, h⟩ := lt_e h
          refine g_iincx C (ls' := [(3, (0, y11)), (0, (2, x0)), (1, (0, x1)), (2, (0, x2))]) ey11 dX12_copiedDone_62 3 rfl (by decide) (by decide) rfl ?_
          refine g_goto C 2 dX12_copiedDone_65 rfl ?_
          refine g_sub [1, 2, 3, 0] rfl rfl ?_
          exact H_2 _ _ _ _ _ T0 h
        · replace h := if_f h c7
          refine g_iconst C (n := 0) dX12_copiedDone_35 (by decide) ?_
          cases h
          exact g_zret C dX12_copiedDone_36 hr hlk (Or.inl rfl)
      · replace h := if_t h c3
        refine g_goto C 62 dX12_copiedDone_17 rfl ?_
        obtain ⟨y12, ey12, h⟩ := lt_e h
        refine g_iincx C (ls' := [(3, (0, y12)), (0, (2, x0)), (1, (0, x1)), (2, (0, x2))]) ey12 dX12_copiedDone_62 3 rfl (by decide) (by decide) rfl ?_
        refine g_goto C 2 dX12_copiedDone_65 rfl ?_
        refine g_sub [1, 2, 3, 0] rfl rfl ?_
        exact H_2 _ _ _ _ _ T0 h
end
theorem cX12_copiedDone_ok (l : Launch) {E : En_} {sz : Int} (hC : Cl_ E.2.2.2.2.2 sz) {x0 x1 x2 : Int} {v : V_} {out : Int × V_} (T0 : (E.2.2.2.2.2 x0 ∧ ty_ x0 = 12 ∧ ln_ x0 = 0)) (h : fX12_copiedDone x0 x1 x2 v = some out) : Met l yX12_copiedDone [.code yX12_copiedDone cX12_copiedDone 4 (some FieldType.boolean)] (rm_ 3 71) (Pc_ E sz v [(2, x0), (0, x1), (0, x2)]) (Qc_ E sz 0 out.1 out.2) 0 0 (fun q => E.1 < q) := by
  refine met_G0 RX12 (by decide +kernel) rfl (Nat.le_of_ble_eq_true rfl) ?_
  intro p e s m args below meth c C hr hlk
  rw [fX12_copiedDone] at h
  refine g_iconst C (n := 0) dX12_copiedDone_0 (by decide) ?_
  refine g_istore_n C (f := 3) (ls' := [(3, (0, 0)), (0, (2, x0)), (1, (0, x1)), (2, (0, x2))]) dX12_copiedDone_1 (by decide) rfl ?_
  refine g_sub [1, 2, 3, 0] rfl rfl ?_
  exact tX12_copiedDone_2 C hr hlk hC _ _ _ _ _ _ T0 h
theorem dX12_isGuess_0 : decode cX12_isGuess 0 = .ok (.aload_n 0, 1) := by decide +kernel
theorem dX12_isGuess_1 : decode cX12_isGuess 1 = .ok (.getfield 121, 3) := by decide +kernel
theorem dX12_isGuess_4 : decode cX12_isGuess 4 = .ok (.bipush 34, 2) := by decide +kernel
theorem dX12_isGuess_6 : decode cX12_isGuess 6 = .ok (.iload_n 1, 1) := by decide +kernel
theorem dX12_isGuess_7 : decode cX12_isGuess 7 = .ok (.imul, 1) := by decide +kernel
theorem dX12_isGuess_8 : decode cX12_isGuess 8 = .ok (.iload_n 2, 1) := by decide +kernel
theorem dX12_isGuess_9 : decode cX12_isGuess 9 = .ok (.iadd, 1) := by decide +kernel
theorem dX12_isGuess_10 : decode cX12_isGuess 10 = .ok (.iaload, 1) := by decide +kernel
theorem dX12_isGuess_11 : decode cX12_isGuess 11 = .ok (.ifCond .eq 5, 3) := by decide +kernel
theorem dX12_isGuess_14 : decode cX12_isGuess 14 = .ok (.iconst 0, 1) := by decide +kernel
theorem dX12_isGuess_15 : decode cX12_isGuess 15 = .ok (.ireturn, 1) := by decide +kernel
theorem dX12_isGuess_16 : decode cX12_isGuess 16 = .ok (.iconst 0, 1) := by decide +kernel
theorem dX12_isGuess_17 : decode cX12_isGuess 17 = .ok (.istore_n 3, 1) := by decide +kernel
theorem dX12_isGuess_18 : decode cX12_isGuess 18 = .ok (.iload_n 3, 1) := by decide +kernel
theorem dX12_isGuess_19 : decode cX12_isGuess 19 = .ok (.iload_n 2, 1) := by decide +kernel
theorem dX12_isGuess_20 : decode cX12_isGuess 20 = .ok (.if_icmp .ge 51, 3) := by decide +kernel
theorem dX12_isGuess_23 : decode cX12_isGuess 23 = .ok (.aload_n 0, 1) := by decide +kernel
theorem dX12_isGuess_24 : decode cX12_isGuess 24 = .ok (.getfield 121, 3) := by decide +kernel
theorem dX12_isGuess_27 : decode cX12_isGuess 27 = .ok (.bipush 34, 2) := by decide +kernel
theorem dX12_isGuess_29 : decode cX12_isGuess 29 = .ok (.iload_n 1, 1) := by decide +kernel
theorem dX12_isGuess_30 : decode cX12_isGuess 30 = .ok (.imul, 1) := by decide +kernel
theorem dX12_isGuess_31 : decode cX12_isGuess 31 = .ok (.iload_n 3, 1) := by decide +kernel
theorem dX12_isGuess_32 : decode cX12_isGuess 32 = .ok (.iadd, 1) := by decide +kernel
theorem dX12_isGuess_33 : decode cX12_isGuess 33 = .ok (.iaload, 1) := by decide +kernel
theorem dX12_isGuess_34 : decode cX12_isGuess 34 = .ok (.iconst 2, 1) := by decide +kernel
theorem dX12_isGuess_35 : decode cX12_isGuess 35 = .ok (.if_icmp .ne 30, 3) := by decide +kernel
theorem dX12_isGuess_38 : decode cX12_isGuess 38 = .ok (.aload_n 0, 1) := by decide +kernel
theorem dX12_isGuess_39 : decode cX12_isGuess 39 = .ok (.getfield 148, 3) := by decide +kernel
theorem dX12_isGuess_42 : decode cX12_isGuess 42 = .ok (.bipush 34, 2) := by decide +kernel
theorem dX12_isGuess_44 : decode cX12_isGuess 44 = .ok (.iload_n 1, 1) := by decide +kernel
theorem dX12_isGuess_45 : decode cX12_isGuess 45 = .ok (.imul, 1) := by decide +kernel
theorem dX12_isGuess_46 : decode cX12_isGuess 46 = .ok (.iload_n 2, 1) := by decide +kernel
theorem dX12_isGuess_47 : decode cX12_isGuess 47 = .ok (.iadd, 1) := by decide +kernel
theorem dX12_isGuess_48 : decode cX12_isGuess 48 = .ok (.iaload, 1) := by decide +kernel
theorem dX12_isGuess_49 : decode cX12_isGuess 49 = .ok (.aload_n 0, 1) := by decide +kernel
theorem dX12_isGuess_50 : decode cX12_isGuess 50 = .ok (.getfield 148, 3) := by decide +kernel
theorem dX12_isGuess_53 : decode cX12_isGuess 53 = .ok (.bipush 34, 2) := by decide +kernel
theorem dX12_isGuess_55 : decode cX12_isGuess 55 = .ok (.iload_n 1, 1) := by decide +kernel
theorem dX12_isGuess_56 : decode cX12_isGuess 56 = .ok (.imul, 1) := by decide +kernel
theorem dX12_isGuess_57 : decode cX12_isGuess 57 = .ok (.iload_n 3, 1) := by decide +kernel
theorem dX12_isGuess_58 : decode cX12_isGuess 58 = .ok (.iadd, 1) := by decide +kernel
theorem dX12_isGuess_59 : decode cX12_isGuess 59 = .ok (.iaload, 1) := by decide +kernel
theorem dX12_isGuess_60 : decode cX12_isGuess 60 = .ok (.if_icmp .gt 5, 3) := by decide +kernel
theorem dX12_isGuess_63 : decode cX12_isGuess 63 = .ok (.iconst 1, 1) := by decide +kernel
theorem dX12_isGuess_64 : decode cX12_isGuess 64 = .ok (.ireturn, 1) := by decide +kernel
theorem dX12_isGuess_65 : decode cX12_isGuess 65 = .ok (.iinc 3 1, 3) := by decide +kernel
theorem dX12_isGuess_68 : decode cX12_isGuess 68 = .ok (.goto (-50), 3) := by decide +kernel
theorem dX12_isGuess_71 : decode cX12_isGuess 71 = .ok (.iconst 0, 1) := by decide +kernel
theorem dX12_isGuess_72 : decode cX12_isGuess 72 = .ok (.ireturn, 1) := by decide +kernel
def fX12_isGuess_18 : Nat → Int → Int → Int → Int → V_ → Option (Int × V_)
  | 0, _, _, _, _, _ => none
  | n + 1, x0, x1, x2, x3, v =>
    if x2 ≤ x3 then (
      some (0, v))
    else (
      ck_ (0 ≤ wr_ ((wr_ (34 * x1)) + x3) ∧ wr_ ((wr_ (34 * x1)) + x3) < 272) (
      if (v (x0 + 35) (wr_ ((wr_ (34 * x1)) + x3))) = 2 then (
        ck_ (0 ≤ wr_ ((wr_ (34 * x1)) + x2) ∧ wr_ ((wr_ (34 * x1)) + x2) < 272) (
        ck_ (0 ≤ wr_ ((wr_ (34 * x1)) + x3) ∧ wr_ ((wr_ (34 * x1)) + x3) < 272) (
        if (v (x0 + 44) (wr_ ((wr_ (34 * x1)) + x3))) < (v (x0 + 44) (wr_ ((wr_ (34 * x1)) + x2))) then (
          lt_ (wr_ (x3 + 1)) fun y14 =>
          (fX12_isGuess_18 n) x0 x1 x2 y14 v)
        else (
          some (1, v)))))
      else (
        lt_ (wr_ (x3 + 1)) fun y8 =>
        (fX12_isGuess_18 n) x0 x1 x2 y8 v)))
def fX12_isGuess (x0 x1 x2 : Int) (v : V_) : Option (Int × V_) :=
  ck_ (0 ≤ wr_ ((wr_ (34 * x1)) + x2) ∧ wr_ ((wr_ (34 * x1)) + x2) < 272) (
  if (v (x0 + 35) (wr_ ((wr_ (34 * x1)) + x2))) = 0 then (
    fX12_isGuess_18 fu_ x0 x1 x2 0 v)
  else (
    some (0, v)))
section
variable {E : En_} {p : Program} {l : Launch} {e : Env} {s : State} {m : MethodId} {args : Array Value} {below : List Frame} {meth : Method} {c : Code} {sz : Int}
theorem tX12_isGuess_18 (C : MC_ E p s m c cX12_isGuess 4 RX12) (hr : meth.sig.returnType = (some FieldType.boolean)) (hlk : meth.locks = false) (hC : Cl_ E.2.2.2.2.2 sz) {out : Int × V_} : ∀ (n : Nat) (x0 x1 x2 x3 : Int) (v : V_), (E.2.2.2.2.2 x0 ∧ ty_ x0 = 12 ∧ ln_ x0 = 0) → fX12_isGuess_18 n x0 x1 x2 x3 v = some out → G_ E p l e (rm_ 0 0) s m args below meth c 4 sz (Q_ E below args s sz sz 0 out.1 out.2) 18 [(0, (2, x0)), (1, (0, x1)), (2, (0, x2)), (3, (0, x3))] [] v sz := by
  intro n
  induction n with
  | zero =>
    intro x0 x1 x2 x3 v T0 h
    cases h
  | succ n H_18 =>
    intro x0 x1 x2 x3 v T0 h
    rw [fX12_isGuess_18] at h
    refine g_iload_n C (f := 3) dX12_isGuess_18 3 rfl ?_
    refine g_iload_n C (f := 2) dX12_isGuess_19 2 rfl ?_
    refine g_icmp_ge C 71 dX12_isGuess_20 rfl (fun c4 => ?_) (fun c4 => ?_)
    · replace h := if_t h c4
      refine g_iconst C (n := 0) dX12_isGuess_71 (by decide) ?_
      cases h
      exact g_zret C dX12_isGuess_72 hr hlk (Or.inl rfl)
    · replace h := if_f h c4
      refine g_aload_n C (f := 0) dX12_isGuess_23 0 rfl ?_
      have F5 := fX12_54 hC T0.1 T0.2.1
      refine g_getR C (k := 54) (o := 35) okX12 (by decide) kf_RX12_121 dX12_isGuess_24 hC T0.1 T0.2.1 rfl rfl ?_
      refine g_bipush C (n := 34) dX12_isGuess_27 (by decide) ?_
      refine g_iload_n C (f := 1) dX12_isGuess_29 1 rfl ?_
      refine g_imul C dX12_isGuess_30 ?_
      refine g_iload_n C (f := 3) dX12_isGuess_31 3 rfl ?_
      refine g_iadd C dX12_isGuess_32 ?_
      obtain ⟨c6, h⟩ := ck_e h
      refine g_iald C 272 dX12_isGuess_33 (rg_ hC F5.1) F5.2.1 F5.2.2 c6 ?_
      refine g_iconst C (n := 2) dX12_isGuess_34 (by decide) ?_
      refine g_icmp_ne C 65 dX12_isGuess_35 rfl (fun c7 => ?_) (fun c7 => ?_)
      · replace h := if_f h c7
        obtain ⟨y8, ey8, h⟩ := lt_e h
        refine g_iincx C (ls' := [(3, (0, y8)), (0, (2, x0)), (1, (0, x1)), (2, (0, x2))]) ey8 dX12_isGuess_65 3 rfl (by decide) (by decide) rfl ?_
        refine g_goto C 18 dX12_isGuess_68 rfl ?_
        refine g_sub [1, 2, 3, 0] rfl rfl ?_
        exact H_18 _ _ _ _ _ T0 h
      · replace h := if_t h c7
        refine g_aload_n C (f := 0) dX12_isGuess_38 0 rfl ?_
        have F9 := fX12_63 hC T0.1 T0.2.1
        refine g_getR C (k := 63) (o := 44) okX12 (by decide) kf_RX12_148 dX12_isGuess_39 hC T0.1 T0.2.1 rfl rfl ?_
        refine g_bipush C (n := 34) dX12_isGuess_42 (by decide) ?_
        refine g_iload_n C (f := 1) dX12_isGuess_44 1 rfl ?_
        refine g_imul C dX12_isGuess_45 ?_
        refine g_iload_n C (f := 2) dX12_isGuess_46 2 rfl ?_
        refine g_iadd C dX12_isGuess_47 ?_
        obtain ⟨c10, h⟩ := ck_e h
        refine g_iald C 272 dX12_isGuess_48 (rg_ hC F9.1) F9.2.1 F9.2.2 c10 ?_
        refine g_aload_n C (f := 0) dX12_isGuess_49 0 rfl ?_
        have F11 := fX12_63 hC T0.1 T0.2.1
        refine g_getR C (k := 63) (o := 44) okX12 (by decide) kf_RX12_148 dX12_isGuess_50 hC T0.1 T0.2.1 rfl rfl ?_
        refine g_bipush C (n := 34) dX12_isGuess_53 (by decide) ?_
        refine g_iload_n C (f := 1) dX12_isGuess_55 1 rfl ?_
        refine g_imul C dX12_isGuess_56 ?_
        refine g_iload_n C (f := 3) dX12_isGuess_57 3 rfl ?_
        refine g_iadd C dX12_isGuess_58 ?_
        obtain ⟨c12, h⟩ := ck_e h
        refine g_iald C 272 dX12_isGuess_59 (rg_ hC F11.1) F11.2.1 F11.2.2 c12 ?_
        refine g_icmp_gt C 65 dX12_isGuess_60 rfl (fun c13 => ?_) (fun c13 => ?_)
        · replace h := if_t h c13
          obtain ⟨y14, ey14, h⟩ := lt_e h
          refine g_iincx C (ls' := [(3, (0, y14)), (0, (2, x0)), (1, (0, x1)), (2, (0, x2))]) ey14 dX12_isGuess_65 3 rfl (by decide) (by decide) rfl ?_
          refine g_goto C 18 dX12_isGuess_68 rfl ?_
          refine g_sub [1, 2, 3, 0] rfl rfl ?_
          exact H_18 _ _ _ _ _ T0 h
        · replace h := if_f h c13
          refine g_iconst C (n := 1) dX12_isGuess_63 (by decide) ?_
          cases h
          exact g_zret C dX12_isGuess_64 hr hlk (Or.inr rfl)
end
theorem cX12_isGuess_ok (l : Launch) {E : En_} {sz : Int} (hC : Cl_ E.2.2.2.2.2 sz) {x0 x1 x2 : Int} {v : V_} {out : Int × V_} (T0 : (E.2.2.2.2.2 x0 ∧ ty_ x0 = 12 ∧ ln_ x0 = 0)) (h : fX12_isGuess x0 x1 x2 v = some out) : Met l yX12_isGuess [.code yX12_isGuess cX12_isGuess 4 (some FieldType.boolean)] (rm_ 0 0) (Pc_ E sz v [(2, x0), (0, x1), (0, x2)]) (Qc_ E sz 0 out.1 out.2) 0 0 (fun q => E.1 < q) := by
  refine met_G0 RX12 (by decide +kernel) rfl (Nat.le_of_ble_eq_true rfl) ?_
  intro p e s m args below meth c C hr hlk
  rw [fX12_isGuess] at h
  refine g_aload_n C (f := 0) dX12_isGuess_0 0 rfl ?_
  have F1 := fX12_54 hC T0.1 T0.2.1
  refine g_getR C (k := 54) (o := 35) okX12 (by decide) kf_RX12_121 dX12_isGuess_1 hC T0.1 T0.2.1 rfl rfl ?_
  refine g_bipush C (n := 34) dX12_isGuess_4 (by decide) ?_
  refine g_iload_n C (f := 1) dX12_isGuess_6 1 rfl ?_
  refine g_imul C dX12_isGuess_7 ?_
  refine g_iload_n C (f := 2) dX12_isGuess_8 2 rfl ?_
  refine g_iadd C dX12_isGuess_9 ?_
  obtain ⟨c2, h⟩ := ck_e h
  refine g_iald C 272 dX12_isGuess_10 (rg_ hC F1.1) F1.2.1 F1.2.2 c2 ?_
  refine g_if_eq C 16 dX12_isGuess_11 rfl (fun c3 => ?_) (fun c3 => ?_)
  · replace h := if_t h c3
    refine g_iconst C (n := 0) dX12_isGuess_16 (by decide) ?_
    refine g_istore_n C (f := 3) (ls' := [(3, (0, 0)), (0, (2, x0)), (1, (0, x1)), (2, (0, x2))]) dX12_isGuess_17 (by decide) rfl ?_
    refine g_sub [1, 2, 3, 0] rfl rfl ?_
    exact tX12_isGuess_18 C hr hlk hC _ _ _ _ _ _ T0 h
  · replace h := if_f h c3
    refine g_iconst C (n := 0) dX12_isGuess_14 (by decide) ?_
    cases h
    exact g_zret C dX12_isGuess_15 hr hlk (Or.inl rfl)
theorem dX12_cycleDone_0 : decode cX12_cycleDone 0 = .ok (.iconst 0, 1) := by decide +kernel
theorem dX12_cycleDone_1 : decode cX12_cycleDone 1 = .ok (.istore_n 3, 1) := by decide +kernel
theorem dX12_cycleDone_2 : decode cX12_cycleDone 2 = .ok (.iload_n 3, 1) := by decide +kernel
theorem dX12_cycleDone_3 : decode cX12_cycleDone 3 = .ok (.aload_n 0, 1) := by decide +kernel
theorem dX12_cycleDone_4 : decode cX12_cycleDone 4 = .ok (.getfield 118, 3) := by decide +kernel
theorem dX12_cycleDone_7 : decode cX12_cycleDone 7 = .ok (.iload_n 1, 1) := by decide +kernel
theorem dX12_cycleDone_8 : decode cX12_cycleDone 8 = .ok (.iaload, 1) := by decide +kernel
theorem dX12_cycleDone_9 : decode cX12_cycleDone 9 = .ok (.if_icmp .ge 65, 3) := by decide +kernel
theorem dX12_cycleDone_12 : decode cX12_cycleDone 12 = .ok (.aload_n 0, 1) := by decide +kernel
theorem dX12_cycleDone_13 : decode cX12_cycleDone 13 = .ok (.getfield 148, 3) := by decide +kernel
theorem dX12_cycleDone_16 : decode cX12_cycleDone 16 = .ok (.bipush 34, 2) := by decide +kernel
theorem dX12_cycleDone_18 : decode cX12_cycleDone 18 = .ok (.iload_n 1, 1) := by decide +kernel
theorem dX12_cycleDone_19 : decode cX12_cycleDone 19 = .ok (.imul, 1) := by decide +kernel
theorem dX12_cycleDone_20 : decode cX12_cycleDone 20 = .ok (.iload_n 3, 1) := by decide +kernel
theorem dX12_cycleDone_21 : decode cX12_cycleDone 21 = .ok (.iadd, 1) := by decide +kernel
theorem dX12_cycleDone_22 : decode cX12_cycleDone 22 = .ok (.iaload, 1) := by decide +kernel
theorem dX12_cycleDone_23 : decode cX12_cycleDone 23 = .ok (.iload_n 2, 1) := by decide +kernel
theorem dX12_cycleDone_24 : decode cX12_cycleDone 24 = .ok (.if_icmp .eq 6, 3) := by decide +kernel
theorem dX12_cycleDone_27 : decode cX12_cycleDone 27 = .ok (.goto 41, 3) := by decide +kernel
theorem dX12_cycleDone_30 : decode cX12_cycleDone 30 = .ok (.aload_n 0, 1) := by decide +kernel
theorem dX12_cycleDone_31 : decode cX12_cycleDone 31 = .ok (.iload_n 1, 1) := by decide +kernel
theorem dX12_cycleDone_32 : decode cX12_cycleDone 32 = .ok (.iload_n 3, 1) := by decide +kernel
theorem dX12_cycleDone_33 : decode cX12_cycleDone 33 = .ok (.invokevirtual 506, 3) := by decide +kernel
theorem dX12_cycleDone_36 : decode cX12_cycleDone 36 = .ok (.aload_n 0, 1) := by decide +kernel
theorem dX12_cycleDone_37 : decode cX12_cycleDone 37 = .ok (.getfield 172, 3) := by decide +kernel
theorem dX12_cycleDone_40 : decode cX12_cycleDone 40 = .ok (.iload_n 3, 1) := by decide +kernel
theorem dX12_cycleDone_41 : decode cX12_cycleDone 41 = .ok (.baload, 1) := by decide +kernel
theorem dX12_cycleDone_42 : decode cX12_cycleDone 42 = .ok (.ifCond .eq 14, 3) := by decide +kernel
theorem dX12_cycleDone_45 : decode cX12_cycleDone 45 = .ok (.aload_n 0, 1) := by decide +kernel
theorem dX12_cycleDone_46 : decode cX12_cycleDone 46 = .ok (.iload_n 1, 1) := by decide +kernel
theorem dX12_cycleDone_47 : decode cX12_cycleDone 47 = .ok (.iload_n 3, 1) := by decide +kernel
theorem dX12_cycleDone_48 : decode cX12_cycleDone 48 = .ok (.invokevirtual 509, 3) := by decide +kernel
theorem dX12_cycleDone_51 : decode cX12_cycleDone 51 = .ok (.ifCond .ne 5, 3) := by decide +kernel
theorem dX12_cycleDone_54 : decode cX12_cycleDone 54 = .ok (.iconst 0, 1) := by decide +kernel
theorem dX12_cycleDone_55 : decode cX12_cycleDone 55 = .ok (.ireturn, 1) := by decide +kernel
theorem dX12_cycleDone_56 : decode cX12_cycleDone 56 = .ok (.aload_n 0, 1) := by decide +kernel
theorem dX12_cycleDone_57 : decode cX12_cycleDone 57 = .ok (.getfield 176, 3) := by decide +kernel
theorem dX12_cycleDone_60 : decode cX12_cycleDone 60 = .ok (.iload_n 3, 1) := by decide +kernel
theorem dX12_cycleDone_61 : decode cX12_cycleDone 61 = .ok (.aload_n 0, 1) := by decide +kernel
theorem dX12_cycleDone_62 : decode cX12_cycleDone 62 = .ok (.getfield 172, 3) := by decide +kernel
theorem dX12_cycleDone_65 : decode cX12_cycleDone 65 = .ok (.iload_n 3, 1) := by decide +kernel
theorem dX12_cycleDone_66 : decode cX12_cycleDone 66 = .ok (.baload, 1) := by decide +kernel
theorem dX12_cycleDone_67 : decode cX12_cycleDone 67 = .ok (.bastore, 1) := by decide +kernel
theorem dX12_cycleDone_68 : decode cX12_cycleDone 68 = .ok (.iinc 3 1, 3) := by decide +kernel
theorem dX12_cycleDone_71 : decode cX12_cycleDone 71 = .ok (.goto (-69), 3) := by decide +kernel
theorem dX12_cycleDone_74 : decode cX12_cycleDone 74 = .ok (.iconst 0, 1) := by decide +kernel
theorem dX12_cycleDone_75 : decode cX12_cycleDone 75 = .ok (.istore_n 3, 1) := by decide +kernel
theorem dX12_cycleDone_76 : decode cX12_cycleDone 76 = .ok (.iload_n 3, 1) := by decide +kernel
theorem dX12_cycleDone_77 : decode cX12_cycleDone 77 = .ok (.aload_n 0, 1) := by decide +kernel
theorem dX12_cycleDone_78 : decode cX12_cycleDone 78 = .ok (.getfield 118, 3) := by decide +kernel
theorem dX12_cycleDone_81 : decode cX12_cycleDone 81 = .ok (.iload_n 1, 1) := by decide +kernel
theorem dX12_cycleDone_82 : decode cX12_cycleDone 82 = .ok (.iaload, 1) := by decide +kernel
theorem dX12_cycleDone_83 : decode cX12_cycleDone 83 = .ok (.if_icmp .ge 30, 3) := by decide +kernel
theorem dX12_cycleDone_86 : decode cX12_cycleDone 86 = .ok (.aload_n 0, 1) := by decide +kernel
theorem dX12_cycleDone_87 : decode cX12_cycleDone 87 = .ok (.getfield 148, 3) := by decide +kernel
theorem dX12_cycleDone_90 : decode cX12_cycleDone 90 = .ok (.bipush 34, 2) := by decide +kernel
theorem dX12_cycleDone_92 : decode cX12_cycleDone 92 = .ok (.iload_n 1, 1) := by decide +kernel
theorem dX12_cycleDone_93 : decode cX12_cycleDone 93 = .ok (.imul, 1) := by decide +kernel
theorem dX12_cycleDone_94 : decode cX12_cycleDone 94 = .ok (.iload_n 3, 1) := by decide +kernel
theorem dX12_cycleDone_95 : decode cX12_cycleDone 95 = .ok (.iadd, 1) := by decide +kernel
theorem dX12_cycleDone_96 : decode cX12_cycleDone 96 = .ok (.iaload, 1) := by decide +kernel
theorem dX12_cycleDone_97 : decode cX12_cycleDone 97 = .ok (.iload_n 2, 1) := by decide +kernel
theorem dX12_cycleDone_98 : decode cX12_cycleDone 98 = .ok (.if_icmp .ne 9, 3) := by decide +kernel
theorem dX12_cycleDone_101 : decode cX12_cycleDone 101 = .ok (.aload_n 0, 1) := by decide +kernel
theorem dX12_cycleDone_102 : decode cX12_cycleDone 102 = .ok (.iload_n 1, 1) := by decide +kernel
theorem dX12_cycleDone_103 : decode cX12_cycleDone 103 = .ok (.iload_n 3, 1) := by decide +kernel
theorem dX12_cycleDone_104 : decode cX12_cycleDone 104 = .ok (.invokevirtual 512, 3) := by decide +kernel
theorem dX12_cycleDone_107 : decode cX12_cycleDone 107 = .ok (.iinc 3 1, 3) := by decide +kernel
theorem dX12_cycleDone_110 : decode cX12_cycleDone 110 = .ok (.goto (-34), 3) := by decide +kernel
theorem dX12_cycleDone_113 : decode cX12_cycleDone 113 = .ok (.iconst 1, 1) := by decide +kernel
theorem dX12_cycleDone_114 : decode cX12_cycleDone 114 = .ok (.ireturn, 1) := by decide +kernel
def fX12_cycleDone_76 : Nat → Int → Int → Int → Int → V_ → Option (Int × V_)
  | 0, _, _, _, _, _ => none
  | n + 1, x0, x1, x2, x3, v =>
    ck_ (0 ≤ x1 ∧ x1 < 8) (
    if (v (x0 + 34) x1) ≤ x3 then (
      some (1, v))
    else (
      ck_ (0 ≤ wr_ ((wr_ (34 * x1)) + x3) ∧ wr_ ((wr_ (34 * x1)) + x3) < 272) (
      if (v (x0 + 44) (wr_ ((wr_ (34 * x1)) + x3))) = x2 then (
        bd_ (fX12_setsItem x0 x1 x3 v) fun q11 =>
        lt_ (wr_ (x3 + 1)) fun y12 =>
        (fX12_cycleDone_76 n) x0 x1 x2 y12 q11.2)
      else (
        lt_ (wr_ (x3 + 1)) fun y10 =>
        (fX12_cycleDone_76 n) x0 x1 x2 y10 v))))
def fX12_cycleDone_56 (k2 : Int → Int → Int → Int → V_ → Option (Int × V_)) (x0 x1 x2 x3 : Int) (v : V_) : Option (Int × V_) :=
  ck_ (0 ≤ x3 ∧ x3 < 34) (
  ck_ (0 ≤ x3 ∧ x3 < 34) (
  ck_ (v (x0 + 52) x3 = 0 ∨ v (x0 + 52) x3 = 1) (
  lt_ (up_ v (x0 + 53) x3 (v (x0 + 52) x3)) fun v25 =>
  lt_ (wr_ (x3 + 1)) fun y26 =>
  k2 x0 x1 x2 y26 v25)))
def fX12_cycleDone_2 : Nat → Int → Int → Int → Int → V_ → Option (Int × V_)
  | 0, _, _, _, _, _ => none
  | n + 1, x0, x1, x2, x3, v =>
    ck_ (0 ≤ x1 ∧ x1 < 8) (
    if (v (x0 + 34) x1) ≤ x3 then (
      fX12_cycleDone_76 fu_ x0 x1 x2 0 v)
    else (
      ck_ (0 ≤ wr_ ((wr_ (34 * x1)) + x3) ∧ wr_ ((wr_ (34 * x1)) + x3) < 272) (
      if (v (x0 + 44) (wr_ ((wr_ (34 * x1)) + x3))) = x2 then (
        bd_ (fX12_readsItem x0 x1 x3 v) fun q16 =>
        ck_ (0 ≤ x3 ∧ x3 < 34) (
        if (q16.2 (x0 + 52) x3) = 0 then (
          fX12_cycleDone_56 (fX12_cycleDone_2 n) x0 x1 x2 x3 q16.2)
        else (
          bd_ (fX12_isGuess x0 x1 x3 q16.2) fun q27 =>
          if q27.1 = 0 then (
            some (0, q27.2))
          else (
            fX12_cycleDone_56 (fX12_cycleDone_2 n) x0 x1 x2 x3 q27.2))))
      else (
        lt_ (wr_ (x3 + 1)) fun y29 =>
        (fX12_cycleDone_2 n) x0 x1 x2 y29 v))))
def fX12_cycleDone (x0 x1 x2 : Int) (v : V_) : Option (Int × V_) :=
  fX12_cycleDone_2 fu_ x0 x1 x2 0 v
section
variable {E : En_} {p : Program} {l : Launch} {e : Env} {s : State} {m : MethodId} {args : Array Value} {below : List Frame} {meth : Method} {c : Code} {sz : Int}
theorem tX12_cycleDone_76 (C : MC_ E p s m c cX12_cycleDone 4 RX12) (hr : meth.sig.returnType = (some FieldType.boolean)) (hlk : meth.locks = false) (hC : Cl_ E.2.2.2.2.2 sz) {out : Int × V_} : ∀ (n : Nat) (x0 x1 x2 x3 : Int) (v : V_), (E.2.2.2.2.2 x0 ∧ ty_ x0 = 12 ∧ ln_ x0 = 0) → fX12_cycleDone_76 n x0 x1 x2 x3 v = some out → G_ E p l e (rm_ 3 71) s m args below meth c 4 sz (Q_ E below args s sz sz 0 out.1 out.2) 76 [(0, (2, x0)), (1, (0, x1)), (2, (0, x2)), (3, (0, x3))] [] v sz := by
  intro n
  induction n with
  | zero =>
    intro x0 x1 x2 x3 v T0 h
    cases h
  | succ n H_76 =>
    intro x0 x1 x2 x3 v T0 h
    rw [fX12_cycleDone_76] at h
    refine g_iload_n C (f := 3) dX12_cycleDone_76 3 rfl ?_
    refine g_aload_n C (f := 0) dX12_cycleDone_77 0 rfl ?_
    have F4 := fX12_53 hC T0.1 T0.2.1
    refine g_getR C (k := 53) (o := 34) okX12 (by decide) kf_RX12_118 dX12_cycleDone_78 hC T0.1 T0.2.1 rfl rfl ?_
    refine g_iload_n C (f := 1) dX12_cycleDone_81 1 rfl ?_
    obtain ⟨c5, h⟩ := ck_e h
    refine g_iald C 8 dX12_cycleDone_82 (rg_ hC F4.1) F4.2.1 F4.2.2 c5 ?_
    refine g_icmp_ge C 113 dX12_cycleDone_83 rfl (fun c6 => ?_) (fun c6 => ?_)
    · replace h := if_t h c6
      refine g_iconst C (n := 1) dX12_cycleDone_113 (by decide) ?_
      cases h
      exact g_zret C dX12_cycleDone_114 hr hlk (Or.inr rfl)
    · replace h := if_f h c6
      refine g_aload_n C (f := 0) dX12_cycleDone_86 0 rfl ?_
      have F7 := fX12_63 hC T0.1 T0.2.1
      refine g_getR C (k := 63) (o := 44) okX12 (by decide) kf_RX12_148 dX12_cycleDone_87 hC T0.1 T0.2.1 rfl rfl ?_
      refine g_bipush C (n := 34) dX12_cycleDone_90 (by decide) ?_
      refine g_iload_n C (f := 1) dX12_cycleDone_92 1 rfl ?_
      refine g_imul C dX12_cycleDone_93 ?_
      refine g_iload_n C (f := 3) dX12_cycleDone_94 3 rfl ?_
      refine g_iadd C dX12_cycleDone_95 ?_
      obtain ⟨c8, h⟩ := ck_e h
      refine g_iald C 272 dX12_cycleDone_96 (rg_ hC F7.1) F7.2.1 F7.2.2 c8 ?_
      refine g_iload_n C (f := 2) dX12_cycleDone_97 2 rfl ?_
      refine g_icmp_ne C 107 dX12_cycleDone_98 rfl (fun c9 => ?_) (fun c9 => ?_)
      · replace h := if_f h c9
        obtain ⟨y10, ey10, h⟩ := lt_e h
        refine g_iincx C (ls' := [(3, (0, y10)), (0, (2, x0)), (1, (0, x1)), (2, (0, x2))]) ey10 dX12_cycleDone_107 3 rfl (by decide) (by decide) rfl ?_
        refine g_goto C 76 dX12_cycleDone_110 rfl ?_
        refine g_sub [1, 2, 3, 0] rfl rfl ?_
        exact H_76 _ _ _ _ _ T0 h
      · replace h := if_t h c9
        refine g_aload_n C (f := 0) dX12_cycleDone_101 0 rfl ?_
        refine g_iload_n C (f := 1) dX12_cycleDone_102 1 rfl ?_
        refine g_iload_n C (f := 3) dX12_cycleDone_103 3 rfl ?_
        obtain ⟨q11, eq11, h⟩ := bd_e h
        refine g_cV C [(0, x1), (0, x3)] (cX12_setsItem_ok l hC T0 eq11) okX12 T0.2.1 (rg_ hC T0.1) km_RX12_512 cv_X12_setsItem rfl (by decide) rfl rfl (Nat.le_of_ble_eq_true rfl) dX12_cycleDone_104 ?_
        obtain ⟨y12, ey12, h⟩ := lt_e h
        refine g_iincx C (ls' := [(3, (0, y12)), (0, (2, x0)), (1, (0, x1)), (2, (0, x2))]) ey12 dX12_cycleDone_107 3 rfl (by decide) (by decide) rfl ?_
        refine g_goto C 76 dX12_cycleDone_110 rfl ?_
        refine g_sub [1, 2, 3, 0] rfl rfl ?_
        exact H_76 _ _ _ _ _ T0 h
theorem tX12_cycleDone_56 (C : MC_ E p s m c cX12_cycleDone 4 RX12) (hr : meth.sig.returnType = (some FieldType.boolean)) (hlk : meth.locks = false) (hC : Cl_ E.2.2.2.2.2 sz) {out : Int × V_} (k2 : Int → Int → Int → Int → V_ → Option (Int × V_)) (H_2 : ∀ (x0 x1 x2 x3 : Int) (v : V_), (E.2.2.2.2.2 x0 ∧ ty_ x0 = 12 ∧ ln_ x0 = 0) → k2 x0 x1 x2 x3 v = some out → G_ E p l e (rm_ 3 71) s m args below meth c 4 sz (Q_ E below args s sz sz 0 out.1 out.2) 2 [(0, (2, x0)), (1, (0, x1)), (2, (0, x2)), (3, (0, x3))] [] v sz) (x0 x1 x2 x3 : Int) (v : V_) (T0 : (E.2.2.2.2.2 x0 ∧ ty_ x0 = 12 ∧ ln_ x0 = 0)) (h : fX12_cycleDone_56 k2 x0 x1 x2 x3 v = some out) : G_ E p l e (rm_ 3 71) s m args below meth c 4 sz (Q_ E below args s sz sz 0 out.1 out.2) 56 [(0, (2, x0)), (1, (0, x1)), (2, (0, x2)), (3, (0, x3))] [] v sz := by
  rw [fX12_cycleDone_56] at h
  refine g_aload_n C (f := 0) dX12_cycleDone_56 0 rfl ?_
  have F20 := fX12_73 hC T0.1 T0.2.1
  refine g_getR C (k := 73) (o := 53) okX12 (by decide) kf_RX12_176 dX12_cycleDone_57 hC T0.1 T0.2.1 rfl rfl ?_
  refine g_iload_n C (f := 3) dX12_cycleDone_60 3 rfl ?_
  refine g_aload_n C (f := 0) dX12_cycleDone_61 0 rfl ?_
  have F21 := fX12_72 hC T0.1 T0.2.1
  refine g_getR C (k := 72) (o := 52) okX12 (by decide) kf_RX12_172 dX12_cycleDone_62 hC T0.1 T0.2.1 rfl rfl ?_
  refine g_iload_n C (f := 3) dX12_cycleDone_65 3 rfl ?_
  obtain ⟨c22, h⟩ := ck_e h
  refine g_zald C 34 dX12_cycleDone_66 (rg_ hC F21.1) F21.2.1 F21.2.2 c22 ?_
  obtain ⟨c23, h⟩ := ck_e h
  obtain ⟨c24, h⟩ := ck_e h
  obtain ⟨v25, ev25, h⟩ := lt_e h
  refine g_zast C 34 dX12_cycleDone_67 (rg_ hC F20.1) F20.2.1 F20.2.2 c23 c24 v25 ev25 ?_
  obtain ⟨y26, ey26, h⟩ := lt_e h
  refine g_iincx C (ls' := [(3, (0, y26)), (0, (2, x0)), (1, (0, x1)), (2, (0, x2))]) ey26 dX12_cycleDone_68 3 rfl (by decide) (by decide) rfl ?_
  refine g_goto C 2 dX12_cycleDone_71 rfl ?_
  refine g_sub [1, 2, 3, 0] rfl rfl ?_
  exact H_2 _ _ _ _ _ T0 h
theorem tX12_cycleDone_2 (C : MC_ E p s m c cX12_cycleDone 4 RX12) (hr : meth.sig.returnType = (some FieldType.boolean)) (hlk : meth.locks = false) (hC : Cl_ E.2.2.2.2.2 sz) {out : Int × V_} : ∀ (n : Nat) (x0 x1 x2 x3 : Int) (v : V_), (E.2.2.2.2.2 x0 ∧ ty_ x0 = 12 ∧ ln_ x0 = 0) → fX12_cycleDone_2 n x0 x1 x2 x3 v = some out → G_ E p l e (rm_ 3 71) s m args below meth c 4 sz (Q_ E below args s sz sz 0 out.1 out.2) 2 [(0, (2, x0)), (1, (0, x1)), (2, (0, x2)), (3, (0, x3))] [] v sz := by
  intro n
  induction n with
  | zero =>
    intro x0 x1 x2 x3 v T0 h
    cases h
  | succ n H_2 =>
    intro x0 x1 x2 x3 v T0 h
    rw [fX12_cycleDone_2] at h
    refine g_iload_n C (f := 3) dX12_cycleDone_2 3 rfl ?_
    refine g_aload_n C (f := 0) dX12_cycleDone_3 0 rfl ?_
    have F1 := fX12_53 hC T0.1 T0.2.1
    refine g_getR C (k := 53) (o := 34) okX12 (by decide) kf_RX12_118 dX12_cycleDone_4 hC T0.1 T0.2.1 rfl rfl ?_
    refine g_iload_n C (f := 1) dX12_cycleDone_7 1 rfl ?_
    obtain ⟨c2, h⟩ := ck_e h
    refine g_iald C 8 dX12_cycleDone_8 (rg_ hC F1.1) F1.2.1 F1.2.2 c2 ?_
    refine g_icmp_ge C 74 dX12_cycleDone_9 rfl (fun c3 => ?_) (fun c3 => ?_)
    · replace h := if_t h c3
      refine g_iconst C (n := 0) dX12_cycleDone_74 (by decide) ?_
      refine g_istore_n C (f := 3) (ls' := [(3, (0, 0)), (0, (2, x0)), (1, (0, x1)), (2, (0, x2))]) dX12_cycleDone_75 (by decide) rfl ?_
      refine g_sub [1, 2, 3, 0] rfl rfl ?_
      exact tX12_cycleDone_76 C hr hlk hC _ _ _ _ _ _ T0 h
    · replace h := if_f h c3
      refine g_aload_n C (f := 0) dX12_cycleDone_12 0 rfl ?_
      have F13 := fX12_63 hC T0.1 T0.2.1
      refine g_getR C (k := 63) (o := 44) okX12 (by decide) kf_RX12_148 dX12_cycleDone_13 hC T0.1 T0.2.1 rfl rfl ?_
      refine g_bipush C (n := 34) dX12_cycleDone_16 (by decide) ?_
      refine g_iload_n C (f := 1) dX12_cycleDone_18 1 rfl ?_
      refine g_imul C dX12_cycleDone_19 ?_
      refine g_iload_n C (f := 3) dX12_cycleDone_20 3 rfl ?_
      refine g_iadd C dX12_cycleDone_21 ?_
      obtain ⟨c14, h⟩ := ck_e h
      refine g_iald C 272 dX12_cycleDone_22 (rg_ hC F13.1) F13.2.1 F13.2.2 c14 ?_
      refine g_iload_n C (f := 2) dX12_cycleDone_23 2 rfl ?_
      refine g_icmp_eq C 30 dX12_cycleDone_24 rfl (fun c15 => ?_) (fun c15 => ?_)
      · replace h := if_t h c15
        refine g_aload_n C (f := 0) dX12_cycleDone_30 0 rfl ?_
        refine g_iload_n C (f := 1) dX12_cycleDone_31 1 rfl ?_
        refine g_iload_n C (f := 3) dX12_cycleDone_32 3 rfl ?_
        obtain ⟨q16, eq16, h⟩ := bd_e h
        refine g_cV C [(0, x1), (0, x3)] (cX12_readsItem_ok l hC T0 eq16) okX12 T0.2.1 (rg_ hC T0.1) km_RX12_506 cv_X12_readsItem rfl (by decide) rfl rfl (Nat.le_of_ble_eq_true rfl) dX12_cycleDone_33 ?_
        refine g_aload_n C (f := 0) dX12_cycleDone_36 0 rfl ?_
        have F17 := fX12_72 hC T0.1 T0.2.1
        refine g_getR C (k := 72) (o := 52) okX12 (by decide) kf_RX12_172 dX12_cycleDone_37 hC T0.1 T0.2.1 rfl rfl ?_
        refine g_iload_n C (f := 3) dX12_cycleDone_40 3 rfl ?_
        obtain ⟨c18, h⟩ := ck_e h
        refine g_zald C 34 dX12_cycleDone_41 (rg_ hC F17.1) F17.2.1 F17.2.2 c18 ?_
        refine g_if_eq C 56 dX12_cycleDone_42 rfl (fun c19 => ?_) (fun c19 => ?_)
        · replace h := if_t h c19
          refine g_sub [0, 1, 2, 3] rfl rfl ?_
          exact tX12_cycleDone_56 C hr hlk hC _ H_2 _ _ _ _ _ T0 h
        · replace h := if_f h c19
          refine g_aload_n C (f := 0) dX12_cycleDone_45 0 rfl ?_
          refine g_iload_n C (f := 1) dX12_cycleDone_46 1 rfl ?_
          refine g_iload_n C (f := 3) dX12_cycleDone_47 3 rfl ?_
          obtain ⟨q27, eq27, h⟩ := bd_e h
          refine g_cV C [(0, x1), (0, x3)] (cX12_isGuess_ok l hC T0 eq27) okX12 T0.2.1 (rg_ hC T0.1) km_RX12_509 cv_X12_isGuess rfl (by decide) rfl rfl (Nat.le_of_ble_eq_true rfl) dX12_cycleDone_48 ?_
          refine g_if_ne C 56 dX12_cycleDone_51 rfl (fun c28 => ?_) (fun c28 => ?_)
          · replace h := if_f h c28
            refine g_sub [0, 1, 2, 3] rfl rfl ?_
            exact tX12_cycleDone_56 C hr hlk hC _ H_2 _ _ _ _ _ T0 h
          · replace h := if_t h c28
            refine g_iconst C (n := 0) dX12_cycleDone_54 (by decide) ?_
            cases h
            exact g_zret C dX12_cycleDone_55 hr hlk (Or.inl rfl)
      · replace h := if_f h c15
        refine g_goto C 68 dX12_cycleDone_27 rfl ?_
        obtain ⟨y29, ey29, h⟩ := lt_e h
        refine g_iincx C (ls' := [(3, (0, y29)), (0, (2, x0)), (1, (0, x1)), (2, (0, x2))]) ey29 dX12_cycleDone_68 3 rfl (by decide) (by decide) rfl ?_
        refine g_goto C 2 dX12_cycleDone_71 rfl ?_
        refine g_sub [1, 2, 3, 0] rfl rfl ?_
        exact H_2 _ _ _ _ _ T0 h
end
theorem cX12_cycleDone_ok (l : Launch) {E : En_} {sz : Int} (hC : Cl_ E.2.2.2.2.2 sz) {x0 x1 x2 : Int} {v : V_} {out : Int × V_} (T0 : (E.2.2.2.2.2 x0 ∧ ty_ x0 = 12 ∧ ln_ x0 = 0)) (h : fX12_cycleDone x0 x1 x2 v = some out) : Met l yX12_cycleDone [.code yX12_cycleDone cX12_cycleDone 4 (some FieldType.boolean)] (rm_ 3 71) (Pc_ E sz v [(2, x0), (0, x1), (0, x2)]) (Qc_ E sz 0 out.1 out.2) 0 0 (fun q => E.1 < q) := by
  refine met_G0 RX12 (by decide +kernel) rfl (Nat.le_of_ble_eq_true rfl) ?_
  intro p e s m args below meth c C hr hlk
  rw [fX12_cycleDone] at h
  refine g_iconst C (n := 0) dX12_cycleDone_0 (by decide) ?_
  refine g_istore_n C (f := 3) (ls' := [(3, (0, 0)), (0, (2, x0)), (1, (0, x1)), (2, (0, x2))]) dX12_cycleDone_1 (by decide) rfl ?_
  refine g_sub [1, 2, 3, 0] rfl rfl ?_
  exact tX12_cycleDone_2 C hr hlk hC _ _ _ _ _ _ T0 h
theorem dX12_splitAhead_0 : decode cX12_splitAhead 0 = .ok (.iload_n 2, 1) := by decide +kernel
theorem dX12_splitAhead_1 : decode cX12_splitAhead 1 = .ok (.iconst 1, 1) := by decide +kernel
theorem dX12_splitAhead_2 : decode cX12_splitAhead 2 = .ok (.isub, 1) := by decide +kernel
theorem dX12_splitAhead_3 : decode cX12_splitAhead 3 = .ok (.istore_n 3, 1) := by decide +kernel
theorem dX12_splitAhead_4 : decode cX12_splitAhead 4 = .ok (.iload_n 3, 1) := by decide +kernel
theorem dX12_splitAhead_5 : decode cX12_splitAhead 5 = .ok (.ifCond .lt 26, 3) := by decide +kernel
theorem dX12_splitAhead_8 : decode cX12_splitAhead 8 = .ok (.aload_n 0, 1) := by decide +kernel
theorem dX12_splitAhead_9 : decode cX12_splitAhead 9 = .ok (.getfield 121, 3) := by decide +kernel
theorem dX12_splitAhead_12 : decode cX12_splitAhead 12 = .ok (.bipush 34, 2) := by decide +kernel
theorem dX12_splitAhead_14 : decode cX12_splitAhead 14 = .ok (.iload_n 1, 1) := by decide +kernel
theorem dX12_splitAhead_15 : decode cX12_splitAhead 15 = .ok (.imul, 1) := by decide +kernel
theorem dX12_splitAhead_16 : decode cX12_splitAhead 16 = .ok (.iload_n 3, 1) := by decide +kernel
theorem dX12_splitAhead_17 : decode cX12_splitAhead 17 = .ok (.iadd, 1) := by decide +kernel
theorem dX12_splitAhead_18 : decode cX12_splitAhead 18 = .ok (.iaload, 1) := by decide +kernel
theorem dX12_splitAhead_19 : decode cX12_splitAhead 19 = .ok (.iconst 2, 1) := by decide +kernel
theorem dX12_splitAhead_20 : decode cX12_splitAhead 20 = .ok (.if_icmp .ne 5, 3) := by decide +kernel
theorem dX12_splitAhead_23 : decode cX12_splitAhead 23 = .ok (.iload_n 3, 1) := by decide +kernel
theorem dX12_splitAhead_24 : decode cX12_splitAhead 24 = .ok (.ireturn, 1) := by decide +kernel
theorem dX12_splitAhead_25 : decode cX12_splitAhead 25 = .ok (.iinc 3 (-1), 3) := by decide +kernel
theorem dX12_splitAhead_28 : decode cX12_splitAhead 28 = .ok (.goto (-24), 3) := by decide +kernel
theorem dX12_splitAhead_31 : decode cX12_splitAhead 31 = .ok (.iconst (-1), 1) := by decide +kernel
theorem dX12_splitAhead_32 : decode cX12_splitAhead 32 = .ok (.ireturn, 1) := by decide +kernel
def fX12_splitAhead_4 : Nat → Int → Int → Int → V_ → Option (Int × V_)
  | 0, _, _, _, _ => none
  | n + 1, x0, x1, x3, v =>
    if x3 < 0 then (
      some ((-1), v))
    else (
      ck_ (0 ≤ wr_ ((wr_ (34 * x1)) + x3) ∧ wr_ ((wr_ (34 * x1)) + x3) < 272) (
      if (v (x0 + 35) (wr_ ((wr_ (34 * x1)) + x3))) = 2 then (
        some (x3, v))
      else (
        lt_ (wr_ (x3 + (-1))) fun y6 =>
        (fX12_splitAhead_4 n) x0 x1 y6 v)))
def fX12_splitAhead (x0 x1 x2 : Int) (v : V_) : Option (Int × V_) :=
  lt_ (wr_ (x2 - 1)) fun y1 =>
  fX12_splitAhead_4 fu_ x0 x1 y1 v
section
variable {E : En_} {p : Program} {l : Launch} {e : Env} {s : State} {m : MethodId} {args : Array Value} {below : List Frame} {meth : Method} {c : Code} {sz : Int}
theorem tX12_splitAhead_4 (C : MC_ E p s m c cX12_splitAhead 4 RX12) (hr : meth.sig.returnType = (some FieldType.int)) (hlk : meth.locks = false) (hC : Cl_ E.2.2.2.2.2 sz) {out : Int × V_} : ∀ (n : Nat) (x0 x1 x3 : Int) (v : V_), (E.2.2.2.2.2 x0 ∧ ty_ x0 = 12 ∧ ln_ x0 = 0) → fX12_splitAhead_4 n x0 x1 x3 v = some out → G_ E p l e (rm_ 0 0) s m args below meth c 4 sz (Q_ E below args s sz sz 0 out.1 out.2) 4 [(0, (2, x0)), (1, (0, x1)), (3, (0, x3))] [] v sz := by
  intro n
  induction n with
  | zero =>
    intro x0 x1 x3 v T0 h
    cases h
  | succ n H_4 =>
    intro x0 x1 x3 v T0 h
    rw [fX12_splitAhead_4] at h
    refine g_iload_n C (f := 3) dX12_splitAhead_4 2 rfl ?_
    refine g_if_lt C 31 dX12_splitAhead_5 rfl (fun c2 => ?_) (fun c2 => ?_)
    · replace h := if_t h c2
      refine g_iconst C (n := (-1)) dX12_splitAhead_31 (by decide) ?_
      cases h
      exact g_iret C dX12_splitAhead_32 hr hlk
    · replace h := if_f h c2
      refine g_aload_n C (f := 0) dX12_splitAhead_8 0 rfl ?_
      have F3 := fX12_54 hC T0.1 T0.2.1
      refine g_getR C (k := 54) (o := 35) okX12 (by decide) kf_RX12_121 dX12_splitAhead_9 hC T0.1 T0.2.1 rfl rfl ?_
      refine g_bipush C (n := 34) dX12_splitAhead_12 (by decide) ?_
      refine g_iload_n C (f := 1) dX12_splitAhead_14 1 rfl ?_
      refine g_imul C dX12_splitAhead_15 ?_
      refine g_iload_n C (f := 3) dX12_splitAhead_16 2 rfl ?_
      refine g_iadd C dX12_splitAhead_17 ?_
      obtain ⟨c4, h⟩ := ck_e h
      refine g_iald C 272 dX12_splitAhead_18 (rg_ hC F3.1) F3.2.1 F3.2.2 c4 ?_
      refine g_iconst C (n := 2) dX12_splitAhead_19 (by decide) ?_
      refine g_icmp_ne C 25 dX12_splitAhead_20 rfl (fun c5 => ?_) (fun c5 => ?_)
      · replace h := if_f h c5
        obtain ⟨y6, ey6, h⟩ := lt_e h
        refine g_iincx C (ls' := [(3, (0, y6)), (0, (2, x0)), (1, (0, x1))]) ey6 dX12_splitAhead_25 2 rfl (by decide) (by decide) rfl ?_
        refine g_goto C 4 dX12_splitAhead_28 rfl ?_
        refine g_sub [1, 2, 0] rfl rfl ?_
        exact H_4 _ _ _ _ T0 h
      · replace h := if_t h c5
        refine g_iload_n C (f := 3) dX12_splitAhead_23 2 rfl ?_
        cases h
        exact g_iret C dX12_splitAhead_24 hr hlk
end
theorem cX12_splitAhead_ok (l : Launch) {E : En_} {sz : Int} (hC : Cl_ E.2.2.2.2.2 sz) {x0 x1 x2 : Int} {v : V_} {out : Int × V_} (T0 : (E.2.2.2.2.2 x0 ∧ ty_ x0 = 12 ∧ ln_ x0 = 0)) (h : fX12_splitAhead x0 x1 x2 v = some out) : Met l yX12_splitAhead [.code yX12_splitAhead cX12_splitAhead 4 (some FieldType.int)] (rm_ 0 0) (Pc_ E sz v [(2, x0), (0, x1), (0, x2)]) (Qc_ E sz 0 out.1 out.2) 0 0 (fun q => E.1 < q) := by
  refine met_G0 RX12 (by decide +kernel) rfl (Nat.le_of_ble_eq_true rfl) ?_
  intro p e s m args below meth c C hr hlk
  rw [fX12_splitAhead] at h
  refine g_iload_n C (f := 2) dX12_splitAhead_0 2 rfl ?_
  refine g_iconst C (n := 1) dX12_splitAhead_1 (by decide) ?_
  refine g_isub C dX12_splitAhead_2 ?_
  obtain ⟨y1, ey1, h⟩ := lt_e h
  refine g_set C ey1 ?_
  refine g_istore_n C (f := 3) (ls' := [(3, (0, y1)), (0, (2, x0)), (1, (0, x1)), (2, (0, x2))]) dX12_splitAhead_3 (by decide) rfl ?_
  refine g_sub [1, 2, 0] rfl rfl ?_
  exact tX12_splitAhead_4 C hr hlk hC _ _ _ _ _ T0 h
theorem dX12_hasHeld_0 : decode cX12_hasHeld 0 = .ok (.iload_n 2, 1) := by decide +kernel
theorem dX12_hasHeld_1 : decode cX12_hasHeld 1 = .ok (.iconst 1, 1) := by decide +kernel
theorem dX12_hasHeld_2 : decode cX12_hasHeld 2 = .ok (.iadd, 1) := by decide +kernel
theorem dX12_hasHeld_3 : decode cX12_hasHeld 3 = .ok (.istore_n 3, 1) := by decide +kernel
theorem dX12_hasHeld_4 : decode cX12_hasHeld 4 = .ok (.iload_n 3, 1) := by decide +kernel
theorem dX12_hasHeld_5 : decode cX12_hasHeld 5 = .ok (.aload_n 0, 1) := by decide +kernel
theorem dX12_hasHeld_6 : decode cX12_hasHeld 6 = .ok (.getfield 118, 3) := by decide +kernel
theorem dX12_hasHeld_9 : decode cX12_hasHeld 9 = .ok (.iload_n 1, 1) := by decide +kernel
theorem dX12_hasHeld_10 : decode cX12_hasHeld 10 = .ok (.iaload, 1) := by decide +kernel
theorem dX12_hasHeld_11 : decode cX12_hasHeld 11 = .ok (.if_icmp .ge 30, 3) := by decide +kernel
theorem dX12_hasHeld_14 : decode cX12_hasHeld 14 = .ok (.aload_n 0, 1) := by decide +kernel
theorem dX12_hasHeld_15 : decode cX12_hasHeld 15 = .ok (.getfield 176, 3) := by decide +kernel
theorem dX12_hasHeld_18 : decode cX12_hasHeld 18 = .ok (.iload_n 3, 1) := by decide +kernel
theorem dX12_hasHeld_19 : decode cX12_hasHeld 19 = .ok (.baload, 1) := by decide +kernel
theorem dX12_hasHeld_20 : decode cX12_hasHeld 20 = .ok (.ifCond .eq 15, 3) := by decide +kernel
theorem dX12_hasHeld_23 : decode cX12_hasHeld 23 = .ok (.aload_n 0, 1) := by decide +kernel
theorem dX12_hasHeld_24 : decode cX12_hasHeld 24 = .ok (.iload_n 1, 1) := by decide +kernel
theorem dX12_hasHeld_25 : decode cX12_hasHeld 25 = .ok (.iload_n 3, 1) := by decide +kernel
theorem dX12_hasHeld_26 : decode cX12_hasHeld 26 = .ok (.invokevirtual 515, 3) := by decide +kernel
theorem dX12_hasHeld_29 : decode cX12_hasHeld 29 = .ok (.iload_n 2, 1) := by decide +kernel
theorem dX12_hasHeld_30 : decode cX12_hasHeld 30 = .ok (.if_icmp .ne 5, 3) := by decide +kernel
theorem dX12_hasHeld_33 : decode cX12_hasHeld 33 = .ok (.iconst 1, 1) := by decide +kernel
theorem dX12_hasHeld_34 : decode cX12_hasHeld 34 = .ok (.ireturn, 1) := by decide +kernel
theorem dX12_hasHeld_35 : decode cX12_hasHeld 35 = .ok (.iinc 3 1, 3) := by decide +kernel
theorem dX12_hasHeld_38 : decode cX12_hasHeld 38 = .ok (.goto (-34), 3) := by decide +kernel
theorem dX12_hasHeld_41 : decode cX12_hasHeld 41 = .ok (.iconst 0, 1) := by decide +kernel
theorem dX12_hasHeld_42 : decode cX12_hasHeld 42 = .ok (.ireturn, 1) := by decide +kernel
def fX12_hasHeld_4 : Nat → Int → Int → Int → Int → V_ → Option (Int × V_)
  | 0, _, _, _, _, _ => none
  | n + 1, x0, x1, x2, x3, v =>
    ck_ (0 ≤ x1 ∧ x1 < 8) (
    if (v (x0 + 34) x1) ≤ x3 then (
      some (0, v))
    else (
      ck_ (0 ≤ x3 ∧ x3 < 34) (
      if (v (x0 + 53) x3) = 0 then (
        lt_ (wr_ (x3 + 1)) fun y8 =>
        (fX12_hasHeld_4 n) x0 x1 x2 y8 v)
      else (
        bd_ (fX12_splitAhead x0 x1 x3 v) fun q9 =>
        if q9.1 = x2 then (
          some (1, q9.2))
        else (
          lt_ (wr_ (x3 + 1)) fun y11 =>
          (fX12_hasHeld_4 n) x0 x1 x2 y11 q9.2)))))
def fX12_hasHeld (x0 x1 x2 : Int) (v : V_) : Option (Int × V_) :=
  lt_ (wr_ (x2 + 1)) fun y1 =>
  fX12_hasHeld_4 fu_ x0 x1 x2 y1 v
section
variable {E : En_} {p : Program} {l : Launch} {e : Env} {s : State} {m : MethodId} {args : Array Value} {below : List Frame} {meth : Method} {c : Code} {sz : Int}
theorem tX12_hasHeld_4 (C : MC_ E p s m c cX12_hasHeld 4 RX12) (hr : meth.sig.returnType = (some FieldType.boolean)) (hlk : meth.locks = false) (hC : Cl_ E.2.2.2.2.2 sz) {out : Int × V_} : ∀ (n : Nat) (x0 x1 x2 x3 : Int) (v : V_), (E.2.2.2.2.2 x0 ∧ ty_ x0 = 12 ∧ ln_ x0 = 0) → fX12_hasHeld_4 n x0 x1 x2 x3 v = some out → G_ E p l e (rm_ 1 23) s m args below meth c 4 sz (Q_ E below args s sz sz 0 out.1 out.2) 4 [(0, (2, x0)), (1, (0, x1)), (2, (0, x2)), (3, (0, x3))] [] v sz := by
  intro n
  induction n with
  | zero =>
    intro x0 x1 x2 x3 v T0 h
    cases h
  | succ n H_4 =>
    intro x0 x1 x2 x3 v T0 h
    rw [fX12_hasHeld_4] at h
    refine g_iload_n C (f := 3) dX12_hasHeld_4 3 rfl ?_
    refine g_aload_n C (f := 0) dX12_hasHeld_5 0 rfl ?_
    have F2 := fX12_53 hC T0.1 T0.2.1
    refine g_getR C (k := 53) (o := 34) okX12 (by decide) kf_RX12_118 dX12_hasHeld_6 hC T0.1 T0.2.1 rfl rfl ?_
    refine g_iload_n C (f := 1) dX12_hasHeld_9 1 rfl ?_
    obtain ⟨c3, h⟩ := ck_e h
    refine g_iald C 8 dX12_hasHeld_10 (rg_ hC F2.1) F2.2.1 F2.2.2 c3 ?_
    refine g_icmp_ge C 41 dX12_hasHeld_11 rfl (fun c4 => ?_) (fun c4 => ?_)
    · replace h := if_t h c4
      refine g_iconst C (n := 0) dX12_hasHeld_41 (by decide) ?_
      cases h
      exact g_zret C dX12_hasHeld_42 hr hlk (Or.inl rfl)
    · replace h := if_f h c4
      refine g_aload_n C (f := 0) dX12_hasHeld_14 0 rfl ?_
      have F5 := fX12_73 hC T0.1 T0.2.1
      refine g_getR C (k := 73) (o := 53) okX12 (by decide) kf_RX12_176 dX12_hasHeld_15 hC T0.1 T0.2.1 rfl rfl ?_
      refine g_iload_n C (f := 3) dX12_hasHeld_18 3 rfl ?_
      obtain ⟨c6, h⟩ := ck_e h
      refine g_zald C 34 dX12_hasHeld_19 (rg_ hC F5.1) F5.2.1 F5.2.2 c6 ?_
      refine g_if_eq C 35 dX12_hasHeld_20 rfl (fun c7 => ?_) (fun c7 => ?_)
      · replace h := if_t h c7
        obtain ⟨y8, ey8, h⟩ := lt_e h
        refine g_iincx C (ls' := [(3, (0, y8)), (0, (2, x0)), (1, (0, x1)), (2, (0, x2))]) ey8 dX12_hasHeld_35 3 rfl (by decide) (by decide) rfl ?_
        refine g_goto C 4 dX12_hasHeld_38 rfl ?_
        refine g_sub [1, 2, 3, 0] rfl rfl ?_
        exact H_4 _ _ _ _ _ T0 h
      · replace h := if_f h c7
        refine g_aload_n C (f := 0) dX12_hasHeld_23 0 rfl ?_
        refine g_iload_n C (f := 1) dX12_hasHeld_24 1 rfl ?_
        refine g_iload_n C (f := 3) dX12_hasHeld_25 3 rfl ?_
        obtain ⟨q9, eq9, h⟩ := bd_e h
        refine g_cV C [(0, x1), (0, x3)] (cX12_splitAhead_ok l hC T0 eq9) okX12 T0.2.1 (rg_ hC T0.1) km_RX12_515 cv_X12_splitAhead rfl (by decide) rfl rfl (Nat.le_of_ble_eq_true rfl) dX12_hasHeld_26 ?_
        refine g_iload_n C (f := 2) dX12_hasHeld_29 2 rfl ?_
        refine g_icmp_ne C 35 dX12_hasHeld_30 rfl (fun c10 => ?_) (fun c10 => ?_)
        · replace h := if_f h c10
          obtain ⟨y11, ey11, h⟩ := lt_e h
          refine g_iincx C (ls' := [(3, (0, y11)), (0, (2, x0)), (1, (0, x1)), (2, (0, x2))]) ey11 dX12_hasHeld_35 3 rfl (by decide) (by decide) rfl ?_
          refine g_goto C 4 dX12_hasHeld_38 rfl ?_
          refine g_sub [1, 2, 3, 0] rfl rfl ?_
          exact H_4 _ _ _ _ _ T0 h
        · replace h := if_t h c10
          refine g_iconst C (n := 1) dX12_hasHeld_33 (by decide) ?_
          cases h
          exact g_zret C dX12_hasHeld_34 hr hlk (Or.inr rfl)
end
theorem cX12_hasHeld_ok (l : Launch) {E : En_} {sz : Int} (hC : Cl_ E.2.2.2.2.2 sz) {x0 x1 x2 : Int} {v : V_} {out : Int × V_} (T0 : (E.2.2.2.2.2 x0 ∧ ty_ x0 = 12 ∧ ln_ x0 = 0)) (h : fX12_hasHeld x0 x1 x2 v = some out) : Met l yX12_hasHeld [.code yX12_hasHeld cX12_hasHeld 4 (some FieldType.boolean)] (rm_ 1 23) (Pc_ E sz v [(2, x0), (0, x1), (0, x2)]) (Qc_ E sz 0 out.1 out.2) 0 0 (fun q => E.1 < q) := by
  refine met_G0 RX12 (by decide +kernel) rfl (Nat.le_of_ble_eq_true rfl) ?_
  intro p e s m args below meth c C hr hlk
  rw [fX12_hasHeld] at h
  refine g_iload_n C (f := 2) dX12_hasHeld_0 2 rfl ?_
  refine g_iconst C (n := 1) dX12_hasHeld_1 (by decide) ?_
  refine g_iadd C dX12_hasHeld_2 ?_
  obtain ⟨y1, ey1, h⟩ := lt_e h
  refine g_set C ey1 ?_
  refine g_istore_n C (f := 3) (ls' := [(3, (0, y1)), (0, (2, x0)), (1, (0, x1)), (2, (0, x2))]) dX12_hasHeld_3 (by decide) rfl ?_
  refine g_sub [1, 2, 3, 0] rfl rfl ?_
  exact tX12_hasHeld_4 C hr hlk hC _ _ _ _ _ _ T0 h
theorem dX12_lengthOf_0 : decode cX12_lengthOf 0 = .ok (.aload_n 0, 1) := by decide +kernel
theorem dX12_lengthOf_1 : decode cX12_lengthOf 1 = .ok (.getfield 148, 3) := by decide +kernel
theorem dX12_lengthOf_4 : decode cX12_lengthOf 4 = .ok (.bipush 34, 2) := by decide +kernel
theorem dX12_lengthOf_6 : decode cX12_lengthOf 6 = .ok (.iload_n 1, 1) := by decide +kernel
theorem dX12_lengthOf_7 : decode cX12_lengthOf 7 = .ok (.imul, 1) := by decide +kernel
theorem dX12_lengthOf_8 : decode cX12_lengthOf 8 = .ok (.aload_n 0, 1) := by decide +kernel
theorem dX12_lengthOf_9 : decode cX12_lengthOf 9 = .ok (.getfield 118, 3) := by decide +kernel
theorem dX12_lengthOf_12 : decode cX12_lengthOf 12 = .ok (.iload_n 1, 1) := by decide +kernel
theorem dX12_lengthOf_13 : decode cX12_lengthOf 13 = .ok (.iaload, 1) := by decide +kernel
theorem dX12_lengthOf_14 : decode cX12_lengthOf 14 = .ok (.iadd, 1) := by decide +kernel
theorem dX12_lengthOf_15 : decode cX12_lengthOf 15 = .ok (.iconst 1, 1) := by decide +kernel
theorem dX12_lengthOf_16 : decode cX12_lengthOf 16 = .ok (.isub, 1) := by decide +kernel
theorem dX12_lengthOf_17 : decode cX12_lengthOf 17 = .ok (.iaload, 1) := by decide +kernel
theorem dX12_lengthOf_18 : decode cX12_lengthOf 18 = .ok (.iconst 1, 1) := by decide +kernel
theorem dX12_lengthOf_19 : decode cX12_lengthOf 19 = .ok (.iadd, 1) := by decide +kernel
theorem dX12_lengthOf_20 : decode cX12_lengthOf 20 = .ok (.ireturn, 1) := by decide +kernel
def fX12_lengthOf (x0 x1 : Int) (v : V_) : Option (Int × V_) :=
  ck_ (0 ≤ x1 ∧ x1 < 8) (
  ck_ (0 ≤ wr_ ((wr_ ((wr_ (34 * x1)) + (v (x0 + 34) x1))) - 1) ∧ wr_ ((wr_ ((wr_ (34 * x1)) + (v (x0 + 34) x1))) - 1) < 272) (
  some (wr_ ((v (x0 + 44) (wr_ ((wr_ ((wr_ (34 * x1)) + (v (x0 + 34) x1))) - 1))) + 1), v)))
theorem cX12_lengthOf_ok (l : Launch) {E : En_} {sz : Int} (hC : Cl_ E.2.2.2.2.2 sz) {x0 x1 : Int} {v : V_} {out : Int × V_} (T0 : (E.2.2.2.2.2 x0 ∧ ty_ x0 = 12 ∧ ln_ x0 = 0)) (h : fX12_lengthOf x0 x1 v = some out) : Met l yX12_lengthOf [.code yX12_lengthOf cX12_lengthOf 2 (some FieldType.int)] (rm_ 0 0) (Pc_ E sz v [(2, x0), (0, x1)]) (Qc_ E sz 0 out.1 out.2) 0 0 (fun q => E.1 < q) := by
  refine met_G0 RX12 (by decide +kernel) rfl (Nat.le_of_ble_eq_true rfl) ?_
  intro p e s m args below meth c C hr hlk
  rw [fX12_lengthOf] at h
  refine g_aload_n C (f := 0) dX12_lengthOf_0 0 rfl ?_
  have F1 := fX12_63 hC T0.1 T0.2.1
  refine g_getR C (k := 63) (o := 44) okX12 (by decide) kf_RX12_148 dX12_lengthOf_1 hC T0.1 T0.2.1 rfl rfl ?_
  refine g_bipush C (n := 34) dX12_lengthOf_4 (by decide) ?_
  refine g_iload_n C (f := 1) dX12_lengthOf_6 1 rfl ?_
  refine g_imul C dX12_lengthOf_7 ?_
  refine g_aload_n C (f := 0) dX12_lengthOf_8 0 rfl ?_
  have F2 := fX12_53 hC T0.1 T0.2.1
  refine g_getR C (k := 53) (o := 34) okX12 (by decide) kf_RX12_118 dX12_lengthOf_9 hC T0.1 T0.2.1 rfl rfl ?_
  refine g_iload_n C (f := 1) dX12_lengthOf_12 1 rfl ?_
  obtain ⟨c3, h⟩ := ck_e h
  refine g_iald C 8 dX12_lengthOf_13 (rg_ hC F2.1) F2.2.1 F2.2.2 c3 ?_
  refine g_iadd C dX12_lengthOf_14 ?_
  refine g_iconst C (n := 1) dX12_lengthOf_15 (by decide) ?_
  refine g_isub C dX12_lengthOf_16 ?_
  obtain ⟨c4, h⟩ := ck_e h
  refine g_iald C 272 dX12_lengthOf_17 (rg_ hC F1.1) F1.2.1 F1.2.2 c4 ?_
  refine g_iconst C (n := 1) dX12_lengthOf_18 (by decide) ?_
  refine g_iadd C dX12_lengthOf_19 ?_
  cases h
  exact g_iret C dX12_lengthOf_20 hr hlk
theorem dX12_splitIn_0 : decode cX12_splitIn 0 = .ok (.iconst 0, 1) := by decide +kernel
theorem dX12_splitIn_1 : decode cX12_splitIn 1 = .ok (.istore_n 3, 1) := by decide +kernel
theorem dX12_splitIn_2 : decode cX12_splitIn 2 = .ok (.iload_n 3, 1) := by decide +kernel
theorem dX12_splitIn_3 : decode cX12_splitIn 3 = .ok (.aload_n 0, 1) := by decide +kernel
theorem dX12_splitIn_4 : decode cX12_splitIn 4 = .ok (.getfield 118, 3) := by decide +kernel
theorem dX12_splitIn_7 : decode cX12_splitIn 7 = .ok (.iload_n 1, 1) := by decide +kernel
theorem dX12_splitIn_8 : decode cX12_splitIn 8 = .ok (.iaload, 1) := by decide +kernel
theorem dX12_splitIn_9 : decode cX12_splitIn 9 = .ok (.if_icmp .ge 41, 3) := by decide +kernel
theorem dX12_splitIn_12 : decode cX12_splitIn 12 = .ok (.aload_n 0, 1) := by decide +kernel
theorem dX12_splitIn_13 : decode cX12_splitIn 13 = .ok (.getfield 121, 3) := by decide +kernel
theorem dX12_splitIn_16 : decode cX12_splitIn 16 = .ok (.bipush 34, 2) := by decide +kernel
theorem dX12_splitIn_18 : decode cX12_splitIn 18 = .ok (.iload_n 1, 1) := by decide +kernel
theorem dX12_splitIn_19 : decode cX12_splitIn 19 = .ok (.imul, 1) := by decide +kernel
theorem dX12_splitIn_20 : decode cX12_splitIn 20 = .ok (.iload_n 3, 1) := by decide +kernel
theorem dX12_splitIn_21 : decode cX12_splitIn 21 = .ok (.iadd, 1) := by decide +kernel
theorem dX12_splitIn_22 : decode cX12_splitIn 22 = .ok (.iaload, 1) := by decide +kernel
theorem dX12_splitIn_23 : decode cX12_splitIn 23 = .ok (.iconst 2, 1) := by decide +kernel
theorem dX12_splitIn_24 : decode cX12_splitIn 24 = .ok (.if_icmp .ne 20, 3) := by decide +kernel
theorem dX12_splitIn_27 : decode cX12_splitIn 27 = .ok (.aload_n 0, 1) := by decide +kernel
theorem dX12_splitIn_28 : decode cX12_splitIn 28 = .ok (.getfield 148, 3) := by decide +kernel
theorem dX12_splitIn_31 : decode cX12_splitIn 31 = .ok (.bipush 34, 2) := by decide +kernel
theorem dX12_splitIn_33 : decode cX12_splitIn 33 = .ok (.iload_n 1, 1) := by decide +kernel
theorem dX12_splitIn_34 : decode cX12_splitIn 34 = .ok (.imul, 1) := by decide +kernel
theorem dX12_splitIn_35 : decode cX12_splitIn 35 = .ok (.iload_n 3, 1) := by decide +kernel
theorem dX12_splitIn_36 : decode cX12_splitIn 36 = .ok (.iadd, 1) := by decide +kernel
theorem dX12_splitIn_37 : decode cX12_splitIn 37 = .ok (.iaload, 1) := by decide +kernel
theorem dX12_splitIn_38 : decode cX12_splitIn 38 = .ok (.iload_n 2, 1) := by decide +kernel
theorem dX12_splitIn_39 : decode cX12_splitIn 39 = .ok (.if_icmp .ne 5, 3) := by decide +kernel
theorem dX12_splitIn_42 : decode cX12_splitIn 42 = .ok (.iload_n 3, 1) := by decide +kernel
theorem dX12_splitIn_43 : decode cX12_splitIn 43 = .ok (.ireturn, 1) := by decide +kernel
theorem dX12_splitIn_44 : decode cX12_splitIn 44 = .ok (.iinc 3 1, 3) := by decide +kernel
theorem dX12_splitIn_47 : decode cX12_splitIn 47 = .ok (.goto (-45), 3) := by decide +kernel
theorem dX12_splitIn_50 : decode cX12_splitIn 50 = .ok (.iconst (-1), 1) := by decide +kernel
theorem dX12_splitIn_51 : decode cX12_splitIn 51 = .ok (.ireturn, 1) := by decide +kernel
def fX12_splitIn_2 : Nat → Int → Int → Int → Int → V_ → Option (Int × V_)
  | 0, _, _, _, _, _ => none
  | n + 1, x0, x1, x2, x3, v =>
    ck_ (0 ≤ x1 ∧ x1 < 8) (
    if (v (x0 + 34) x1) ≤ x3 then (
      some ((-1), v))
    else (
      ck_ (0 ≤ wr_ ((wr_ (34 * x1)) + x3) ∧ wr_ ((wr_ (34 * x1)) + x3) < 272) (
      if (v (x0 + 35) (wr_ ((wr_ (34 * x1)) + x3))) = 2 then (
        ck_ (0 ≤ wr_ ((wr_ (34 * x1)) + x3) ∧ wr_ ((wr_ (34 * x1)) + x3) < 272) (
        if (v (x0 + 44) (wr_ ((wr_ (34 * x1)) + x3))) = x2 then (
          some (x3, v))
        else (
          lt_ (wr_ (x3 + 1)) fun y11 =>
          (fX12_splitIn_2 n) x0 x1 x2 y11 v)))
      else (
        lt_ (wr_ (x3 + 1)) fun y7 =>
        (fX12_splitIn_2 n) x0 x1 x2 y7 v))))
def fX12_splitIn (x0 x1 x2 : Int) (v : V_) : Option (Int × V_) :=
  fX12_splitIn_2 fu_ x0 x1 x2 0 v
section
variable {E : En_} {p : Program} {l : Launch} {e : Env} {s : State} {m : MethodId} {args : Array Value} {below : List Frame} {meth : Method} {c : Code} {sz : Int}
theorem tX12_splitIn_2 (C : MC_ E p s m c cX12_splitIn 4 RX12) (hr : meth.sig.returnType = (some FieldType.int)) (hlk : meth.locks = false) (hC : Cl_ E.2.2.2.2.2 sz) {out : Int × V_} : ∀ (n : Nat) (x0 x1 x2 x3 : Int) (v : V_), (E.2.2.2.2.2 x0 ∧ ty_ x0 = 12 ∧ ln_ x0 = 0) → fX12_splitIn_2 n x0 x1 x2 x3 v = some out → G_ E p l e (rm_ 0 0) s m args below meth c 4 sz (Q_ E below args s sz sz 0 out.1 out.2) 2 [(0, (2, x0)), (1, (0, x1)), (2, (0, x2)), (3, (0, x3))] [] v sz := by
  intro n
  induction n with
  | zero =>
    intro x0 x1 x2 x3 v T0 h
    cases h
  | succ n H_2 =>
    intro x0 x1 x2 x3 v T0 h
    rw [fX12_splitIn_2] at h
    refine g_iload_n C (f := 3) dX12_splitIn_2 3 rfl ?_
    refine g_aload_n C (f := 0) dX12_splitIn_3 0 rfl ?_
    have F1 := fX12_53 hC T0.1 T0.2.1
    refine g_getR C (k := 53) (o := 34) okX12 (by decide) kf_RX12_118 dX12_splitIn_4 hC T0.1 T0.2.1 rfl rfl ?_
    refine g_iload_n C (f := 1) dX12_splitIn_7 1 rfl ?_
    obtain ⟨c2, h⟩ := ck_e h
    refine g_iald C 8 dX12_splitIn_8 (rg_ hC F1.1) F1.2.1 F1.2.2 c2 ?_
    refine g_icmp_ge C 50 dX12_splitIn_9 rfl (fun c3 => ?_) (fun c3 => ?_)
    · replace h := if_t h c3
      refine g_iconst C (n := (-1)) dX12_splitIn_50 (by decide) ?_
      cases h
      exact g_iret C dX12_splitIn_51 hr hlk
    · replace h := if_f h c3
      refine g_aload_n C (f := 0) dX12_splitIn_12 0 rfl ?_
      have F4 := fX12_54 hC T0.1 T0.2.1
      refine g_getR C (k := 54) (o := 35) okX12 (by decide) kf_RX12_121 dX12_splitIn_13 hC T0.1 T0.2.1 rfl rfl ?_
      refine g_bipush C (n := 34) dX12_splitIn_16 (by decide) ?_
      refine g_iload_n C (f := 1) dX12_splitIn_18 1 rfl ?_
      refine g_imul C dX12_splitIn_19 ?_
      refine g_iload_n C (f := 3) dX12_splitIn_20 3 rfl ?_
      refine g_iadd C dX12_splitIn_21 ?_
      obtain ⟨c5, h⟩ := ck_e h
      refine g_iald C 272 dX12_splitIn_22 (rg_ hC F4.1) F4.2.1 F4.2.2 c5 ?_
      refine g_iconst C (n := 2) dX12_splitIn_23 (by decide) ?_
      refine g_icmp_ne C 44 dX12_splitIn_24 rfl (fun c6 => ?_) (fun c6 => ?_)
      · replace h := if_f h c6
        obtain ⟨y7, ey7, h⟩ := lt_e h
        refine g_iincx C (ls' := [(3, (0, y7)), (0, (2, x0)), (1, (0, x1)), (2, (0, x2))]) ey7 dX12_splitIn_44 3 rfl (by decide) (by decide) rfl ?_
        refine g_goto C 2 dX12_splitIn_47 rfl ?_
        refine g_sub [1, 2, 3, 0] rfl rfl ?_
        exact H_2 _ _ _ _ _ T0 h
      · replace h := if_t h c6
        refine g_aload_n C (f := 0) dX12_splitIn_27 0 rfl ?_
        have F8 := fX12_63 hC T0.1 T0.2.1
        refine g_getR C (k := 63) (o := 44) okX12 (by decide) kf_RX12_148 dX12_splitIn_28 hC T0.1 T0.2.1 rfl rfl ?_
        refine g_bipush C (n := 34) dX12_splitIn_31 (by decide) ?_
        refine g_iload_n C (f := 1) dX12_splitIn_33 1 rfl ?_
        refine g_imul C dX12_splitIn_34 ?_
        refine g_iload_n C (f := 3) dX12_splitIn_35 3 rfl ?_
        refine g_iadd C dX12_splitIn_36 ?_
        obtain ⟨c9, h⟩ := ck_e h
        refine g_iald C 272 dX12_splitIn_37 (rg_ hC F8.1) F8.2.1 F8.2.2 c9 ?_
        refine g_iload_n C (f := 2) dX12_splitIn_38 2 rfl ?_
        refine g_icmp_ne C 44 dX12_splitIn_39 rfl (fun c10 => ?_) (fun c10 => ?_)
        · replace h := if_f h c10
          obtain ⟨y11, ey11, h⟩ := lt_e h
          refine g_iincx C (ls' := [(3, (0, y11)), (0, (2, x0)), (1, (0, x1)), (2, (0, x2))]) ey11 dX12_splitIn_44 3 rfl (by decide) (by decide) rfl ?_
          refine g_goto C 2 dX12_splitIn_47 rfl ?_
          refine g_sub [1, 2, 3, 0] rfl rfl ?_
          exact H_2 _ _ _ _ _ T0 h
        · replace h := if_t h c10
          refine g_iload_n C (f := 3) dX12_splitIn_42 3 rfl ?_
          cases h
          exact g_iret C dX12_splitIn_43 hr hlk
end
theorem cX12_splitIn_ok (l : Launch) {E : En_} {sz : Int} (hC : Cl_ E.2.2.2.2.2 sz) {x0 x1 x2 : Int} {v : V_} {out : Int × V_} (T0 : (E.2.2.2.2.2 x0 ∧ ty_ x0 = 12 ∧ ln_ x0 = 0)) (h : fX12_splitIn x0 x1 x2 v = some out) : Met l yX12_splitIn [.code yX12_splitIn cX12_splitIn 4 (some FieldType.int)] (rm_ 0 0) (Pc_ E sz v [(2, x0), (0, x1), (0, x2)]) (Qc_ E sz 0 out.1 out.2) 0 0 (fun q => E.1 < q) := by
  refine met_G0 RX12 (by decide +kernel) rfl (Nat.le_of_ble_eq_true rfl) ?_
  intro p e s m args below meth c C hr hlk
  rw [fX12_splitIn] at h
  refine g_iconst C (n := 0) dX12_splitIn_0 (by decide) ?_
  refine g_istore_n C (f := 3) (ls' := [(3, (0, 0)), (0, (2, x0)), (1, (0, x1)), (2, (0, x2))]) dX12_splitIn_1 (by decide) rfl ?_
  refine g_sub [1, 2, 3, 0] rfl rfl ?_
  exact tX12_splitIn_2 C hr hlk hC _ _ _ _ _ _ T0 h
