theorem dX12_counted_0 : decode cX12_counted 0 = .ok (.iload_n 0, 1) := by decide +kernel
theorem dX12_counted_1 : decode cX12_counted 1 = .ok (.iload_n 1, 1) := by decide +kernel
theorem dX12_counted_2 : decode cX12_counted 2 = .ok (.iadd, 1) := by decide +kernel
theorem dX12_counted_3 : decode cX12_counted 3 = .ok (.ldc_w 554, 3) := by decide +kernel
theorem dX12_counted_6 : decode cX12_counted 6 = .ok (.if_icmp .le 9, 3) := by decide +kernel
theorem dX12_counted_9 : decode cX12_counted 9 = .ok (.ldc_w 554, 3) := by decide +kernel
theorem dX12_counted_12 : decode cX12_counted 12 = .ok (.goto 6, 3) := by decide +kernel
theorem dX12_counted_15 : decode cX12_counted 15 = .ok (.iload_n 0, 1) := by decide +kernel
theorem dX12_counted_16 : decode cX12_counted 16 = .ok (.iload_n 1, 1) := by decide +kernel
theorem dX12_counted_17 : decode cX12_counted 17 = .ok (.iadd, 1) := by decide +kernel
theorem dX12_counted_18 : decode cX12_counted 18 = .ok (.ireturn, 1) := by decide +kernel
def fX12_counted (x0 x1 : Int) (v : V_) : Option (Int × V_) :=
  if (wr_ (x0 + x1)) ≤ 1000000 then (
    some (wr_ (x0 + x1), v))
  else (
    some (1000000, v))
theorem cX12_counted_ok (l : Launch) {E : En_} {sz : Int} (hC : Cl_ E.2.2.2.2.2 sz) {x0 x1 : Int} {v : V_} {out : Int × V_} (h : fX12_counted x0 x1 v = some out) : Met l yX12_counted [.code yX12_counted cX12_counted 2 (some FieldType.int)] (rm_ 0 0) (Pc_ E sz v [(0, x0), (0, x1)]) (Qc_ E sz 0 out.1 out.2) 0 0 (fun q => E.1 < q) := by
  refine met_G0 RX12 (by decide +kernel) rfl (Nat.le_of_ble_eq_true rfl) ?_
  intro p e s m args below meth c C hr hlk
  rw [fX12_counted] at h
  refine g_iload_n C (f := 0) dX12_counted_0 0 rfl ?_
  refine g_iload_n C (f := 1) dX12_counted_1 1 rfl ?_
  refine g_iadd C dX12_counted_2 ?_
  refine g_ldcw C (n := 1000000) kc_RX12_554 dX12_counted_3 (by decide) ?_
  refine g_icmp_le C 15 dX12_counted_6 rfl (fun c1 => ?_) (fun c1 => ?_)
  · replace h := if_t h c1
    refine g_iload_n C (f := 0) dX12_counted_15 0 rfl ?_
    refine g_iload_n C (f := 1) dX12_counted_16 1 rfl ?_
    refine g_iadd C dX12_counted_17 ?_
    cases h
    exact g_iret C dX12_counted_18 hr hlk
  · replace h := if_f h c1
    refine g_ldcw C (n := 1000000) kc_RX12_554 dX12_counted_9 (by decide) ?_
    refine g_goto C 18 dX12_counted_12 rfl ?_
    cases h
    exact g_iret C dX12_counted_18 hr hlk
theorem dX12_isDigit_0 : decode cX12_isDigit 0 = .ok (.iload_n 0, 1) := by decide +kernel
theorem dX12_isDigit_1 : decode cX12_isDigit 1 = .ok (.bipush 48, 2) := by decide +kernel
theorem dX12_isDigit_3 : decode cX12_isDigit 3 = .ok (.if_icmp .lt 13, 3) := by decide +kernel
theorem dX12_isDigit_6 : decode cX12_isDigit 6 = .ok (.iload_n 0, 1) := by decide +kernel
theorem dX12_isDigit_7 : decode cX12_isDigit 7 = .ok (.bipush 57, 2) := by decide +kernel
theorem dX12_isDigit_9 : decode cX12_isDigit 9 = .ok (.if_icmp .gt 7, 3) := by decide +kernel
theorem dX12_isDigit_12 : decode cX12_isDigit 12 = .ok (.iconst 1, 1) := by decide +kernel
theorem dX12_isDigit_13 : decode cX12_isDigit 13 = .ok (.goto 4, 3) := by decide +kernel
theorem dX12_isDigit_16 : decode cX12_isDigit 16 = .ok (.iconst 0, 1) := by decide +kernel
theorem dX12_isDigit_17 : decode cX12_isDigit 17 = .ok (.ireturn, 1) := by decide +kernel
def fX12_isDigit (x0 : Int) (v : V_) : Option (Int × V_) :=
  if x0 < 48 then (
    some (0, v))
  else (
    if 57 < x0 then (
      some (0, v))
    else (
      some (1, v)))
theorem cX12_isDigit_ok (l : Launch) {E : En_} {sz : Int} (hC : Cl_ E.2.2.2.2.2 sz) {x0 : Int} {v : V_} {out : Int × V_} (h : fX12_isDigit x0 v = some out) : Met l yX12_isDigit [.code yX12_isDigit cX12_isDigit 1 (some FieldType.boolean)] (rm_ 0 0) (Pc_ E sz v [(0, x0)]) (Qc_ E sz 0 out.1 out.2) 0 0 (fun q => E.1 < q) := by
  refine met_G0 RX12 (by decide +kernel) rfl (Nat.le_of_ble_eq_true rfl) ?_
  intro p e s m args below meth c C hr hlk
  rw [fX12_isDigit] at h
  refine g_iload_n C (f := 0) dX12_isDigit_0 0 rfl ?_
  refine g_bipush C (n := 48) dX12_isDigit_1 (by decide) ?_
  refine g_icmp_lt C 16 dX12_isDigit_3 rfl (fun c1 => ?_) (fun c1 => ?_)
  · replace h := if_t h c1
    refine g_iconst C (n := 0) dX12_isDigit_16 (by decide) ?_
    cases h
    exact g_zret C dX12_isDigit_17 hr hlk (Or.inl rfl)
  · replace h := if_f h c1
    refine g_iload_n C (f := 0) dX12_isDigit_6 0 rfl ?_
    refine g_bipush C (n := 57) dX12_isDigit_7 (by decide) ?_
    refine g_icmp_gt C 16 dX12_isDigit_9 rfl (fun c2 => ?_) (fun c2 => ?_)
    · replace h := if_t h c2
      refine g_iconst C (n := 0) dX12_isDigit_16 (by decide) ?_
      cases h
      exact g_zret C dX12_isDigit_17 hr hlk (Or.inl rfl)
    · replace h := if_f h c2
      refine g_iconst C (n := 1) dX12_isDigit_12 (by decide) ?_
      refine g_goto C 17 dX12_isDigit_13 rfl ?_
      cases h
      exact g_zret C dX12_isDigit_17 hr hlk (Or.inr rfl)
theorem dX12_isLetter_0 : decode cX12_isLetter 0 = .ok (.iload_n 0, 1) := by decide +kernel
theorem dX12_isLetter_1 : decode cX12_isLetter 1 = .ok (.bipush 97, 2) := by decide +kernel
theorem dX12_isLetter_3 : decode cX12_isLetter 3 = .ok (.if_icmp .lt 13, 3) := by decide +kernel
theorem dX12_isLetter_6 : decode cX12_isLetter 6 = .ok (.iload_n 0, 1) := by decide +kernel
theorem dX12_isLetter_7 : decode cX12_isLetter 7 = .ok (.bipush 122, 2) := by decide +kernel
theorem dX12_isLetter_9 : decode cX12_isLetter 9 = .ok (.if_icmp .gt 7, 3) := by decide +kernel
theorem dX12_isLetter_12 : decode cX12_isLetter 12 = .ok (.iconst 1, 1) := by decide +kernel
theorem dX12_isLetter_13 : decode cX12_isLetter 13 = .ok (.goto 4, 3) := by decide +kernel
theorem dX12_isLetter_16 : decode cX12_isLetter 16 = .ok (.iconst 0, 1) := by decide +kernel
theorem dX12_isLetter_17 : decode cX12_isLetter 17 = .ok (.ireturn, 1) := by decide +kernel
def fX12_isLetter (x0 : Int) (v : V_) : Option (Int × V_) :=
  if x0 < 97 then (
    some (0, v))
  else (
    if 122 < x0 then (
      some (0, v))
    else (
      some (1, v)))
theorem cX12_isLetter_ok (l : Launch) {E : En_} {sz : Int} (hC : Cl_ E.2.2.2.2.2 sz) {x0 : Int} {v : V_} {out : Int × V_} (h : fX12_isLetter x0 v = some out) : Met l yX12_isLetter [.code yX12_isLetter cX12_isLetter 1 (some FieldType.boolean)] (rm_ 0 0) (Pc_ E sz v [(0, x0)]) (Qc_ E sz 0 out.1 out.2) 0 0 (fun q => E.1 < q) := by
  refine met_G0 RX12 (by decide +kernel) rfl (Nat.le_of_ble_eq_true rfl) ?_
  intro p e s m args below meth c C hr hlk
  rw [fX12_isLetter] at h
  refine g_iload_n C (f := 0) dX12_isLetter_0 0 rfl ?_
  refine g_bipush C (n := 97) dX12_isLetter_1 (by decide) ?_
  refine g_icmp_lt C 16 dX12_isLetter_3 rfl (fun c1 => ?_) (fun c1 => ?_)
  · replace h := if_t h c1
    refine g_iconst C (n := 0) dX12_isLetter_16 (by decide) ?_
    cases h
    exact g_zret C dX12_isLetter_17 hr hlk (Or.inl rfl)
  · replace h := if_f h c1
    refine g_iload_n C (f := 0) dX12_isLetter_6 0 rfl ?_
    refine g_bipush C (n := 122) dX12_isLetter_7 (by decide) ?_
    refine g_icmp_gt C 16 dX12_isLetter_9 rfl (fun c2 => ?_) (fun c2 => ?_)
    · replace h := if_t h c2
      refine g_iconst C (n := 0) dX12_isLetter_16 (by decide) ?_
      cases h
      exact g_zret C dX12_isLetter_17 hr hlk (Or.inl rfl)
    · replace h := if_f h c2
      refine g_iconst C (n := 1) dX12_isLetter_12 (by decide) ?_
      refine g_goto C 17 dX12_isLetter_13 rfl ?_
      cases h
      exact g_zret C dX12_isLetter_17 hr hlk (Or.inr rfl)
theorem dX12_token_0 : decode cX12_token 0 = .ok (.aload_n 0, 1) := by decide +kernel
theorem dX12_token_1 : decode cX12_token 1 = .ok (.getfield 20, 3) := by decide +kernel
theorem dX12_token_4 : decode cX12_token 4 = .ok (.aload_n 0, 1) := by decide +kernel
theorem dX12_token_5 : decode cX12_token 5 = .ok (.getfield 223, 3) := by decide +kernel
theorem dX12_token_8 : decode cX12_token 8 = .ok (.iload_n 1, 1) := by decide +kernel
theorem dX12_token_9 : decode cX12_token 9 = .ok (.iastore, 1) := by decide +kernel
theorem dX12_token_10 : decode cX12_token 10 = .ok (.aload_n 0, 1) := by decide +kernel
theorem dX12_token_11 : decode cX12_token 11 = .ok (.getfield 24, 3) := by decide +kernel
theorem dX12_token_14 : decode cX12_token 14 = .ok (.aload_n 0, 1) := by decide +kernel
theorem dX12_token_15 : decode cX12_token 15 = .ok (.getfield 223, 3) := by decide +kernel
theorem dX12_token_18 : decode cX12_token 18 = .ok (.iload_n 2, 1) := by decide +kernel
theorem dX12_token_19 : decode cX12_token 19 = .ok (.iastore, 1) := by decide +kernel
theorem dX12_token_20 : decode cX12_token 20 = .ok (.aload_n 0, 1) := by decide +kernel
theorem dX12_token_21 : decode cX12_token 21 = .ok (.getfield 27, 3) := by decide +kernel
theorem dX12_token_24 : decode cX12_token 24 = .ok (.aload_n 0, 1) := by decide +kernel
theorem dX12_token_25 : decode cX12_token 25 = .ok (.getfield 223, 3) := by decide +kernel
theorem dX12_token_28 : decode cX12_token 28 = .ok (.iload_n 3, 1) := by decide +kernel
theorem dX12_token_29 : decode cX12_token 29 = .ok (.iastore, 1) := by decide +kernel
theorem dX12_token_30 : decode cX12_token 30 = .ok (.aload_n 0, 1) := by decide +kernel
theorem dX12_token_31 : decode cX12_token 31 = .ok (.getfield 30, 3) := by decide +kernel
theorem dX12_token_34 : decode cX12_token 34 = .ok (.aload_n 0, 1) := by decide +kernel
theorem dX12_token_35 : decode cX12_token 35 = .ok (.getfield 223, 3) := by decide +kernel
theorem dX12_token_38 : decode cX12_token 38 = .ok (.lload 4, 2) := by decide +kernel
theorem dX12_token_40 : decode cX12_token 40 = .ok (.lastore, 1) := by decide +kernel
theorem dX12_token_41 : decode cX12_token 41 = .ok (.aload_n 0, 1) := by decide +kernel
theorem dX12_token_42 : decode cX12_token 42 = .ok (.dup, 1) := by decide +kernel
theorem dX12_token_43 : decode cX12_token 43 = .ok (.getfield 223, 3) := by decide +kernel
theorem dX12_token_46 : decode cX12_token 46 = .ok (.iconst 1, 1) := by decide +kernel
theorem dX12_token_47 : decode cX12_token 47 = .ok (.iadd, 1) := by decide +kernel
theorem dX12_token_48 : decode cX12_token 48 = .ok (.putfield 223, 3) := by decide +kernel
theorem dX12_token_51 : decode cX12_token 51 = .ok (.return_, 1) := by decide +kernel
def fX12_token (x0 x1 x2 x3 x4 : Int) (v : V_) : Option (Int × V_) :=
  ck_ (0 ≤ v x0 10 ∧ v x0 10 < 403) (
  lt_ (up_ v (x0 + 3) (v x0 10) x1) fun v3 =>
  ck_ (0 ≤ v3 x0 10 ∧ v3 x0 10 < 403) (
  lt_ (up_ v3 (x0 + 4) (v3 x0 10) x2) fun v6 =>
  ck_ (0 ≤ v6 x0 10 ∧ v6 x0 10 < 403) (
  lt_ (up_ v6 (x0 + 5) (v6 x0 10) x3) fun v9 =>
  ck_ (0 ≤ v9 x0 10 ∧ v9 x0 10 < 403) (
  lt_ (up_ v9 (x0 + 6) (v9 x0 10) x4) fun v12 =>
  lt_ (up_ v12 x0 10 (wr_ ((v12 x0 10) + 1))) fun v13 =>
  some (0, v13)))))
theorem cX12_token_ok (l : Launch) {E : En_} {sz : Int} (hC : Cl_ E.2.2.2.2.2 sz) {x0 x1 x2 x3 x4 : Int} {v : V_} {out : Int × V_} (T0 : (E.2.2.2.2.2 x0 ∧ ty_ x0 = 12 ∧ ln_ x0 = 0)) (h : fX12_token x0 x1 x2 x3 x4 v = some out) : Met l yX12_token [.code yX12_token cX12_token 6 (none : Option FieldType)] (rm_ 0 0) (Pc_ E sz v [(2, x0), (0, x1), (0, x2), (0, x3), (1, x4)]) (Qc_ E sz 9 out.1 out.2) 0 0 (fun q => E.1 < q) := by
  refine met_G0 RX12 (by decide +kernel) rfl (Nat.le_of_ble_eq_true rfl) ?_
  intro p e s m args below meth c C hr hlk
  rw [fX12_token] at h
  refine g_aload_n C (f := 0) dX12_token_0 0 rfl ?_
  have F1 := fX12_5 hC T0.1 T0.2.1
  refine g_getR C (k := 5) (o := 3) okX12 (by decide) kf_RX12_20 dX12_token_1 hC T0.1 T0.2.1 rfl rfl ?_
  refine g_aload_n C (f := 0) dX12_token_4 0 rfl ?_
  refine g_getf C (k := 10) (kd := 0) okX12 (by decide) kf_RX12_223 dX12_token_5 (rg_ hC T0.1) T0.2.1 rfl ?_
  refine g_iload_n C (f := 1) dX12_token_8 1 rfl ?_
  obtain ⟨c2, h⟩ := ck_e h
  obtain ⟨v3, ev3, h⟩ := lt_e h
  refine g_iast C 403 dX12_token_9 (rg_ hC F1.1) F1.2.1 F1.2.2 c2 v3 ev3 ?_
  refine g_aload_n C (f := 0) dX12_token_10 0 rfl ?_
  have F4 := fX12_6 hC T0.1 T0.2.1
  refine g_getR C (k := 6) (o := 4) okX12 (by decide) kf_RX12_24 dX12_token_11 hC T0.1 T0.2.1 rfl rfl ?_
  refine g_aload_n C (f := 0) dX12_token_14 0 rfl ?_
  refine g_getf C (k := 10) (kd := 0) okX12 (by decide) kf_RX12_223 dX12_token_15 (rg_ hC T0.1) T0.2.1 rfl ?_
  refine g_iload_n C (f := 2) dX12_token_18 2 rfl ?_
  obtain ⟨c5, h⟩ := ck_e h
  obtain ⟨v6, ev6, h⟩ := lt_e h
  refine g_iast C 403 dX12_token_19 (rg_ hC F4.1) F4.2.1 F4.2.2 c5 v6 ev6 ?_
  refine g_aload_n C (f := 0) dX12_token_20 0 rfl ?_
  have F7 := fX12_7 hC T0.1 T0.2.1
  refine g_getR C (k := 7) (o := 5) okX12 (by decide) kf_RX12_27 dX12_token_21 hC T0.1 T0.2.1 rfl rfl ?_
  refine g_aload_n C (f := 0) dX12_token_24 0 rfl ?_
  refine g_getf C (k := 10) (kd := 0) okX12 (by decide) kf_RX12_223 dX12_token_25 (rg_ hC T0.1) T0.2.1 rfl ?_
  refine g_iload_n C (f := 3) dX12_token_28 3 rfl ?_
  obtain ⟨c8, h⟩ := ck_e h
  obtain ⟨v9, ev9, h⟩ := lt_e h
  refine g_iast C 403 dX12_token_29 (rg_ hC F7.1) F7.2.1 F7.2.2 c8 v9 ev9 ?_
  refine g_aload_n C (f := 0) dX12_token_30 0 rfl ?_
  have F10 := fX12_8 hC T0.1 T0.2.1
  refine g_getR C (k := 8) (o := 6) okX12 (by decide) kf_RX12_30 dX12_token_31 hC T0.1 T0.2.1 rfl rfl ?_
  refine g_aload_n C (f := 0) dX12_token_34 0 rfl ?_
  refine g_getf C (k := 10) (kd := 0) okX12 (by decide) kf_RX12_223 dX12_token_35 (rg_ hC T0.1) T0.2.1 rfl ?_
  refine g_lload C (i := 4) dX12_token_38 4 rfl ?_
  obtain ⟨c11, h⟩ := ck_e h
  obtain ⟨v12, ev12, h⟩ := lt_e h
  refine g_last C 403 dX12_token_40 (rg_ hC F10.1) F10.2.1 F10.2.2 c11 v12 ev12 ?_
  refine g_aload_n C (f := 0) dX12_token_41 0 rfl ?_
  refine g_dup C (Nat.ne_of_beq_eq_false rfl) dX12_token_42 ?_
  refine g_getf C (k := 10) (kd := 0) okX12 (by decide) kf_RX12_223 dX12_token_43 (rg_ hC T0.1) T0.2.1 rfl ?_
  refine g_iconst C (n := 1) dX12_token_46 (by decide) ?_
  refine g_iadd C dX12_token_47 ?_
  obtain ⟨v13, ev13, h⟩ := lt_e h
  refine g_putf C (k := 10) (kd := 0) okX12 (by decide) kf_RX12_223 dX12_token_48 (rg_ hC T0.1) T0.2.1 rfl rfl nvI (Or.inl rfl) v13 ev13 ?_
  cases h
  exact g_vret C dX12_token_51 hr hlk
theorem dX12_sign_0 : decode cX12_sign 0 = .ok (.iload_n 2, 1) := by decide +kernel
theorem dX12_sign_1 : decode cX12_sign 1 = .ok (.bipush 59, 2) := by decide +kernel
theorem dX12_sign_3 : decode cX12_sign 3 = .ok (.if_icmp .ne 7, 3) := by decide +kernel
theorem dX12_sign_6 : decode cX12_sign 6 = .ok (.iconst 4, 1) := by decide +kernel
theorem dX12_sign_7 : decode cX12_sign 7 = .ok (.goto 14, 3) := by decide +kernel
theorem dX12_sign_10 : decode cX12_sign 10 = .ok (.iload_n 2, 1) := by decide +kernel
theorem dX12_sign_11 : decode cX12_sign 11 = .ok (.bipush 61, 2) := by decide +kernel
theorem dX12_sign_13 : decode cX12_sign 13 = .ok (.if_icmp .ne 7, 3) := by decide +kernel
theorem dX12_sign_16 : decode cX12_sign 16 = .ok (.iconst 5, 1) := by decide +kernel
theorem dX12_sign_17 : decode cX12_sign 17 = .ok (.goto 4, 3) := by decide +kernel
theorem dX12_sign_20 : decode cX12_sign 20 = .ok (.iconst 3, 1) := by decide +kernel
theorem dX12_sign_21 : decode cX12_sign 21 = .ok (.istore 4, 2) := by decide +kernel
theorem dX12_sign_23 : decode cX12_sign 23 = .ok (.iload_n 2, 1) := by decide +kernel
theorem dX12_sign_24 : decode cX12_sign 24 = .ok (.bipush 43, 2) := by decide +kernel
theorem dX12_sign_26 : decode cX12_sign 26 = .ok (.if_icmp .ne 7, 3) := by decide +kernel
theorem dX12_sign_29 : decode cX12_sign 29 = .ok (.bipush 8, 2) := by decide +kernel
theorem dX12_sign_31 : decode cX12_sign 31 = .ok (.istore 4, 2) := by decide +kernel
theorem dX12_sign_33 : decode cX12_sign 33 = .ok (.iload_n 2, 1) := by decide +kernel
theorem dX12_sign_34 : decode cX12_sign 34 = .ok (.bipush 45, 2) := by decide +kernel
theorem dX12_sign_36 : decode cX12_sign 36 = .ok (.if_icmp .ne 7, 3) := by decide +kernel
theorem dX12_sign_39 : decode cX12_sign 39 = .ok (.bipush 9, 2) := by decide +kernel
theorem dX12_sign_41 : decode cX12_sign 41 = .ok (.istore 4, 2) := by decide +kernel
theorem dX12_sign_43 : decode cX12_sign 43 = .ok (.iload_n 2, 1) := by decide +kernel
theorem dX12_sign_44 : decode cX12_sign 44 = .ok (.bipush 42, 2) := by decide +kernel
theorem dX12_sign_46 : decode cX12_sign 46 = .ok (.if_icmp .ne 7, 3) := by decide +kernel
theorem dX12_sign_49 : decode cX12_sign 49 = .ok (.bipush 10, 2) := by decide +kernel
theorem dX12_sign_51 : decode cX12_sign 51 = .ok (.istore 4, 2) := by decide +kernel
theorem dX12_sign_53 : decode cX12_sign 53 = .ok (.iload_n 2, 1) := by decide +kernel
theorem dX12_sign_54 : decode cX12_sign 54 = .ok (.bipush 47, 2) := by decide +kernel
theorem dX12_sign_56 : decode cX12_sign 56 = .ok (.if_icmp .ne 7, 3) := by decide +kernel
theorem dX12_sign_59 : decode cX12_sign 59 = .ok (.bipush 15, 2) := by decide +kernel
theorem dX12_sign_61 : decode cX12_sign 61 = .ok (.istore 4, 2) := by decide +kernel
theorem dX12_sign_63 : decode cX12_sign 63 = .ok (.iload_n 2, 1) := by decide +kernel
theorem dX12_sign_64 : decode cX12_sign 64 = .ok (.bipush 60, 2) := by decide +kernel
theorem dX12_sign_66 : decode cX12_sign 66 = .ok (.if_icmp .ne 7, 3) := by decide +kernel
theorem dX12_sign_69 : decode cX12_sign 69 = .ok (.bipush 13, 2) := by decide +kernel
theorem dX12_sign_71 : decode cX12_sign 71 = .ok (.istore 4, 2) := by decide +kernel
theorem dX12_sign_73 : decode cX12_sign 73 = .ok (.aload_n 0, 1) := by decide +kernel
theorem dX12_sign_74 : decode cX12_sign 74 = .ok (.iload 4, 2) := by decide +kernel
theorem dX12_sign_76 : decode cX12_sign 76 = .ok (.iload_n 1, 1) := by decide +kernel
theorem dX12_sign_77 : decode cX12_sign 77 = .ok (.iconst 0, 1) := by decide +kernel
theorem dX12_sign_78 : decode cX12_sign 78 = .ok (.lconst 0, 1) := by decide +kernel
theorem dX12_sign_79 : decode cX12_sign 79 = .ok (.invokevirtual 230, 3) := by decide +kernel
theorem dX12_sign_82 : decode cX12_sign 82 = .ok (.iconst 1, 1) := by decide +kernel
theorem dX12_sign_83 : decode cX12_sign 83 = .ok (.ireturn, 1) := by decide +kernel
def fX12_sign_73 (x0 x1 x4 : Int) (v : V_) : Option (Int × V_) :=
  bd_ (fX12_token x0 x4 x1 0 0 v) fun q8 =>
  some (1, q8.2)
def fX12_sign_63 (x0 x1 x2 x4 : Int) (v : V_) : Option (Int × V_) :=
  if x2 = 60 then (
    fX12_sign_73 x0 x1 13 v)
  else (
    fX12_sign_73 x0 x1 x4 v)
def fX12_sign_53 (x0 x1 x2 x4 : Int) (v : V_) : Option (Int × V_) :=
  if x2 = 47 then (
    fX12_sign_63 x0 x1 x2 15 v)
  else (
    fX12_sign_63 x0 x1 x2 x4 v)
def fX12_sign_43 (x0 x1 x2 x4 : Int) (v : V_) : Option (Int × V_) :=
  if x2 = 42 then (
    fX12_sign_53 x0 x1 x2 10 v)
  else (
    fX12_sign_53 x0 x1 x2 x4 v)
def fX12_sign_33 (x0 x1 x2 x4 : Int) (v : V_) : Option (Int × V_) :=
  if x2 = 45 then (
    fX12_sign_43 x0 x1 x2 9 v)
  else (
    fX12_sign_43 x0 x1 x2 x4 v)
def fX12_sign_21 (x0 x1 x2 s0 : Int) (v : V_) : Option (Int × V_) :=
  if x2 = 43 then (
    fX12_sign_33 x0 x1 x2 8 v)
  else (
    fX12_sign_33 x0 x1 x2 s0 v)
def fX12_sign (x0 x1 x2 x3 : Int) (v : V_) : Option (Int × V_) :=
  if x2 = 59 then (
    fX12_sign_21 x0 x1 x2 4 v)
  else (
    if x2 = 61 then (
      fX12_sign_21 x0 x1 x2 5 v)
    else (
      fX12_sign_21 x0 x1 x2 3 v))
section
variable {E : En_} {p : Program} {l : Launch} {e : Env} {s : State} {m : MethodId} {args : Array Value} {below : List Frame} {meth : Method} {c : Code} {sz : Int}
theorem tX12_sign_73 (C : MC_ E p s m c cX12_sign 5 RX12) (hr : meth.sig.returnType = (some FieldType.int)) (hlk : meth.locks = false) (hC : Cl_ E.2.2.2.2.2 sz) {out : Int × V_} (x0 x1 x4 : Int) (v : V_) (T0 : (E.2.2.2.2.2 x0 ∧ ty_ x0 = 12 ∧ ln_ x0 = 0)) (h : fX12_sign_73 x0 x1 x4 v = some out) : G_ E p l e (rm_ 1 25) s m args below meth c 5 sz (Q_ E below args s sz sz 0 out.1 out.2) 73 [(0, (2, x0)), (1, (0, x1)), (4, (0, x4))] [] v sz := by
  rw [fX12_sign_73] at h
  refine g_aload_n C (f := 0) dX12_sign_73 0 rfl ?_
  refine g_iload C (i := 4) dX12_sign_74 2 rfl ?_
  refine g_iload_n C (f := 1) dX12_sign_76 1 rfl ?_
  refine g_iconst C (n := 0) dX12_sign_77 (by decide) ?_
  refine g_lconst C (z := 0) dX12_sign_78 (by decide) ?_
  obtain ⟨q8, eq8, h⟩ := bd_e h
  refine g_cV C [(0, x4), (0, x1), (0, 0), (1, 0)] (cX12_token_ok l hC T0 eq8) okX12 T0.2.1 (rg_ hC T0.1) km_RX12_230 cv_X12_token rfl (by decide) rfl rfl (Nat.le_of_ble_eq_true rfl) dX12_sign_79 ?_
  refine g_iconst C (n := 1) dX12_sign_82 (by decide) ?_
  cases h
  exact g_iret C dX12_sign_83 hr hlk
theorem tX12_sign_63 (C : MC_ E p s m c cX12_sign 5 RX12) (hr : meth.sig.returnType = (some FieldType.int)) (hlk : meth.locks = false) (hC : Cl_ E.2.2.2.2.2 sz) {out : Int × V_} (x0 x1 x2 x4 : Int) (v : V_) (T0 : (E.2.2.2.2.2 x0 ∧ ty_ x0 = 12 ∧ ln_ x0 = 0)) (h : fX12_sign_63 x0 x1 x2 x4 v = some out) : G_ E p l e (rm_ 1 25) s m args below meth c 5 sz (Q_ E below args s sz sz 0 out.1 out.2) 63 [(0, (2, x0)), (1, (0, x1)), (2, (0, x2)), (4, (0, x4))] [] v sz := by
  rw [fX12_sign_63] at h
  refine g_iload_n C (f := 2) dX12_sign_63 2 rfl ?_
  refine g_bipush C (n := 60) dX12_sign_64 (by decide) ?_
  refine g_icmp_ne C 73 dX12_sign_66 rfl (fun c7 => ?_) (fun c7 => ?_)
  · replace h := if_f h c7
    refine g_sub [0, 1, 3] rfl rfl ?_
    exact tX12_sign_73 C hr hlk hC _ _ _ _ T0 h
  · replace h := if_t h c7
    refine g_bipush C (n := 13) dX12_sign_69 (by decide) ?_
    refine g_istore C (i := 4) (ls' := [(4, (0, 13)), (0, (2, x0)), (1, (0, x1)), (2, (0, x2))]) dX12_sign_71 (by decide) rfl ?_
    refine g_sub [1, 2, 0] rfl rfl ?_
    exact tX12_sign_73 C hr hlk hC _ _ _ _ T0 h
theorem tX12_sign_53 (C : MC_ E p s m c cX12_sign 5 RX12) (hr : meth.sig.returnType = (some FieldType.int)) (hlk : meth.locks = false) (hC : Cl_ E.2.2.2.2.2 sz) {out : Int × V_} (x0 x1 x2 x4 : Int) (v : V_) (T0 : (E.2.2.2.2.2 x0 ∧ ty_ x0 = 12 ∧ ln_ x0 = 0)) (h : fX12_sign_53 x0 x1 x2 x4 v = some out) : G_ E p l e (rm_ 1 25) s m args below meth c 5 sz (Q_ E below args s sz sz 0 out.1 out.2) 53 [(0, (2, x0)), (1, (0, x1)), (2, (0, x2)), (4, (0, x4))] [] v sz := by
  rw [fX12_sign_53] at h
  refine g_iload_n C (f := 2) dX12_sign_53 2 rfl ?_
  refine g_bipush C (n := 47) dX12_sign_54 (by decide) ?_
  refine g_icmp_ne C 63 dX12_sign_56 rfl (fun c6 => ?_) (fun c6 => ?_)
  · replace h := if_f h c6
    refine g_sub [0, 1, 2, 3] rfl rfl ?_
    exact tX12_sign_63 C hr hlk hC _ _ _ _ _ T0 h
  · replace h := if_t h c6
    refine g_bipush C (n := 15) dX12_sign_59 (by decide) ?_
    refine g_istore C (i := 4) (ls' := [(4, (0, 15)), (0, (2, x0)), (1, (0, x1)), (2, (0, x2))]) dX12_sign_61 (by decide) rfl ?_
    refine g_sub [1, 2, 3, 0] rfl rfl ?_
    exact tX12_sign_63 C hr hlk hC _ _ _ _ _ T0 h
theorem tX12_sign_43 (C : MC_ E p s m c cX12_sign 5 RX12) (hr : meth.sig.returnType = (some FieldType.int)) (hlk : meth.locks = false) (hC : Cl_ E.2.2.2.2.2 sz) {out : Int × V_} (x0 x1 x2 x4 : Int) (v : V_) (T0 : (E.2.2.2.2.2 x0 ∧ ty_ x0 = 12 ∧ ln_ x0 = 0)) (h : fX12_sign_43 x0 x1 x2 x4 v = some out) : G_ E p l e (rm_ 1 25) s m args below meth c 5 sz (Q_ E below args s sz sz 0 out.1 out.2) 43 [(0, (2, x0)), (1, (0, x1)), (2, (0, x2)), (4, (0, x4))] [] v sz := by
  rw [fX12_sign_43] at h
  refine g_iload_n C (f := 2) dX12_sign_43 2 rfl ?_
  refine g_bipush C (n := 42) dX12_sign_44 (by decide) ?_
  refine g_icmp_ne C 53 dX12_sign_46 rfl (fun c5 => ?_) (fun c5 => ?_)
  · replace h := if_f h c5
    refine g_sub [0, 1, 2, 3] rfl rfl ?_
    exact tX12_sign_53 C hr hlk hC _ _ _ _ _ T0 h
  · replace h := if_t h c5
    refine g_bipush C (n := 10) dX12_sign_49 (by decide) ?_
    refine g_istore C (i := 4) (ls' := [(4, (0, 10)), (0, (2, x0)), (1, (0, x1)), (2, (0, x2))]) dX12_sign_51 (by decide) rfl ?_
    refine g_sub [1, 2, 3, 0] rfl rfl ?_
    exact tX12_sign_53 C hr hlk hC _ _ _ _ _ T0 h
theorem tX12_sign_33 (C : MC_ E p s m c cX12_sign 5 RX12) (hr : meth.sig.returnType = (some FieldType.int)) (hlk : meth.locks = false) (hC : Cl_ E.2.2.2.2.2 sz) {out : Int × V_} (x0 x1 x2 x4 : Int) (v : V_) (T0 : (E.2.2.2.2.2 x0 ∧ ty_ x0 = 12 ∧ ln_ x0 = 0)) (h : fX12_sign_33 x0 x1 x2 x4 v = some out) : G_ E p l e (rm_ 1 25) s m args below meth c 5 sz (Q_ E below args s sz sz 0 out.1 out.2) 33 [(0, (2, x0)), (1, (0, x1)), (2, (0, x2)), (4, (0, x4))] [] v sz := by
  rw [fX12_sign_33] at h
  refine g_iload_n C (f := 2) dX12_sign_33 2 rfl ?_
  refine g_bipush C (n := 45) dX12_sign_34 (by decide) ?_
  refine g_icmp_ne C 43 dX12_sign_36 rfl (fun c4 => ?_) (fun c4 => ?_)
  · replace h := if_f h c4
    refine g_sub [0, 1, 2, 3] rfl rfl ?_
    exact tX12_sign_43 C hr hlk hC _ _ _ _ _ T0 h
  · replace h := if_t h c4
    refine g_bipush C (n := 9) dX12_sign_39 (by decide) ?_
    refine g_istore C (i := 4) (ls' := [(4, (0, 9)), (0, (2, x0)), (1, (0, x1)), (2, (0, x2))]) dX12_sign_41 (by decide) rfl ?_
    refine g_sub [1, 2, 3, 0] rfl rfl ?_
    exact tX12_sign_43 C hr hlk hC _ _ _ _ _ T0 h
theorem tX12_sign_21 (C : MC_ E p s m c cX12_sign 5 RX12) (hr : meth.sig.returnType = (some FieldType.int)) (hlk : meth.locks = false) (hC : Cl_ E.2.2.2.2.2 sz) {out : Int × V_} (x0 x1 x2 s0 : Int) (v : V_) (T0 : (E.2.2.2.2.2 x0 ∧ ty_ x0 = 12 ∧ ln_ x0 = 0)) (h : fX12_sign_21 x0 x1 x2 s0 v = some out) : G_ E p l e (rm_ 1 25) s m args below meth c 5 sz (Q_ E below args s sz sz 0 out.1 out.2) 21 [(0, (2, x0)), (1, (0, x1)), (2, (0, x2))] [(0, s0)] v sz := by
  rw [fX12_sign_21] at h
  refine g_istore C (i := 4) (ls' := [(4, (0, s0)), (0, (2, x0)), (1, (0, x1)), (2, (0, x2))]) dX12_sign_21 (by decide) rfl ?_
  refine g_iload_n C (f := 2) dX12_sign_23 3 rfl ?_
  refine g_bipush C (n := 43) dX12_sign_24 (by decide) ?_
  refine g_icmp_ne C 33 dX12_sign_26 rfl (fun c3 => ?_) (fun c3 => ?_)
  · replace h := if_f h c3
    refine g_sub [1, 2, 3, 0] rfl rfl ?_
    exact tX12_sign_33 C hr hlk hC _ _ _ _ _ T0 h
  · replace h := if_t h c3
    refine g_bipush C (n := 8) dX12_sign_29 (by decide) ?_
    refine g_istore C (i := 4) (ls' := [(4, (0, 8)), (0, (2, x0)), (1, (0, x1)), (2, (0, x2))]) dX12_sign_31 (by decide) rfl ?_
    refine g_sub [1, 2, 3, 0] rfl rfl ?_
    exact tX12_sign_33 C hr hlk hC _ _ _ _ _ T0 h
end
theorem cX12_sign_ok (l : Launch) {E : En_} {sz : Int} (hC : Cl_ E.2.2.2.2.2 sz) {x0 x1 x2 x3 : Int} {v : V_} {out : Int × V_} (T0 : (E.2.2.2.2.2 x0 ∧ ty_ x0 = 12 ∧ ln_ x0 = 0)) (h : fX12_sign x0 x1 x2 x3 v = some out) : Met l yX12_sign [.code yX12_sign cX12_sign 5 (some FieldType.int)] (rm_ 1 25) (Pc_ E sz v [(2, x0), (0, x1), (0, x2), (0, x3)]) (Qc_ E sz 0 out.1 out.2) 0 0 (fun q => E.1 < q) := by
  refine met_G0 RX12 (by decide +kernel) rfl (Nat.le_of_ble_eq_true rfl) ?_
  intro p e s m args below meth c C hr hlk
  rw [fX12_sign] at h
  refine g_iload_n C (f := 2) dX12_sign_0 2 rfl ?_
  refine g_bipush C (n := 59) dX12_sign_1 (by decide) ?_
  refine g_icmp_ne C 10 dX12_sign_3 rfl (fun c1 => ?_) (fun c1 => ?_)
  · replace h := if_f h c1
    refine g_iload_n C (f := 2) dX12_sign_10 2 rfl ?_
    refine g_bipush C (n := 61) dX12_sign_11 (by decide) ?_
    refine g_icmp_ne C 20 dX12_sign_13 rfl (fun c2 => ?_) (fun c2 => ?_)
    · replace h := if_f h c2
      refine g_iconst C (n := 3) dX12_sign_20 (by decide) ?_
      refine g_sub [0, 1, 2] rfl rfl ?_
      exact tX12_sign_21 C hr hlk hC _ _ _ _ _ T0 h
    · replace h := if_t h c2
      refine g_iconst C (n := 5) dX12_sign_16 (by decide) ?_
      refine g_goto C 21 dX12_sign_17 rfl ?_
      refine g_sub [0, 1, 2] rfl rfl ?_
      exact tX12_sign_21 C hr hlk hC _ _ _ _ _ T0 h
  · replace h := if_t h c1
    refine g_iconst C (n := 4) dX12_sign_6 (by decide) ?_
    refine g_goto C 21 dX12_sign_7 rfl ?_
    refine g_sub [0, 1, 2] rfl rfl ?_
    exact tX12_sign_21 C hr hlk hC _ _ _ _ _ T0 h
theorem dX12_cut_0 : decode cX12_cut 0 = .ok (.aload_n 0, 1) := by decide +kernel
theorem dX12_cut_1 : decode cX12_cut 1 = .ok (.iconst 0, 1) := by decide +kernel
theorem dX12_cut_2 : decode cX12_cut 2 = .ok (.putfield 223, 3) := by decide +kernel
theorem dX12_cut_5 : decode cX12_cut 5 = .ok (.iconst 0, 1) := by decide +kernel
theorem dX12_cut_6 : decode cX12_cut 6 = .ok (.istore_n 1, 1) := by decide +kernel
theorem dX12_cut_7 : decode cX12_cut 7 = .ok (.aload_n 0, 1) := by decide +kernel
theorem dX12_cut_8 : decode cX12_cut 8 = .ok (.getfield 223, 3) := by decide +kernel
theorem dX12_cut_11 : decode cX12_cut 11 = .ok (.sipush 400, 3) := by decide +kernel
theorem dX12_cut_14 : decode cX12_cut 14 = .ok (.if_icmp .gt 280, 3) := by decide +kernel
theorem dX12_cut_17 : decode cX12_cut 17 = .ok (.aload_n 0, 1) := by decide +kernel
theorem dX12_cut_18 : decode cX12_cut 18 = .ok (.iload_n 1, 1) := by decide +kernel
theorem dX12_cut_19 : decode cX12_cut 19 = .ok (.invokevirtual 226, 3) := by decide +kernel
theorem dX12_cut_22 : decode cX12_cut 22 = .ok (.istore_n 2, 1) := by decide +kernel
theorem dX12_cut_23 : decode cX12_cut 23 = .ok (.iload_n 1, 1) := by decide +kernel
theorem dX12_cut_24 : decode cX12_cut 24 = .ok (.aload_n 0, 1) := by decide +kernel
theorem dX12_cut_25 : decode cX12_cut 25 = .ok (.getfield 214, 3) := by decide +kernel
theorem dX12_cut_28 : decode cX12_cut 28 = .ok (.if_icmp .lt 15, 3) := by decide +kernel
theorem dX12_cut_31 : decode cX12_cut 31 = .ok (.aload_n 0, 1) := by decide +kernel
theorem dX12_cut_32 : decode cX12_cut 32 = .ok (.iconst 0, 1) := by decide +kernel
theorem dX12_cut_33 : decode cX12_cut 33 = .ok (.aload_n 0, 1) := by decide +kernel
theorem dX12_cut_34 : decode cX12_cut 34 = .ok (.getfield 214, 3) := by decide +kernel
theorem dX12_cut_37 : decode cX12_cut 37 = .ok (.iconst 0, 1) := by decide +kernel
theorem dX12_cut_38 : decode cX12_cut 38 = .ok (.lconst 0, 1) := by decide +kernel
theorem dX12_cut_39 : decode cX12_cut 39 = .ok (.invokevirtual 230, 3) := by decide +kernel
theorem dX12_cut_42 : decode cX12_cut 42 = .ok (.return_, 1) := by decide +kernel
theorem dX12_cut_43 : decode cX12_cut 43 = .ok (.iload_n 2, 1) := by decide +kernel
theorem dX12_cut_44 : decode cX12_cut 44 = .ok (.bipush 9, 2) := by decide +kernel
theorem dX12_cut_46 : decode cX12_cut 46 = .ok (.if_icmp .eq 21, 3) := by decide +kernel
theorem dX12_cut_49 : decode cX12_cut 49 = .ok (.iload_n 2, 1) := by decide +kernel
theorem dX12_cut_50 : decode cX12_cut 50 = .ok (.bipush 10, 2) := by decide +kernel
theorem dX12_cut_52 : decode cX12_cut 52 = .ok (.if_icmp .eq 15, 3) := by decide +kernel
theorem dX12_cut_55 : decode cX12_cut 55 = .ok (.iload_n 2, 1) := by decide +kernel
theorem dX12_cut_56 : decode cX12_cut 56 = .ok (.bipush 13, 2) := by decide +kernel
theorem dX12_cut_58 : decode cX12_cut 58 = .ok (.if_icmp .eq 9, 3) := by decide +kernel
theorem dX12_cut_61 : decode cX12_cut 61 = .ok (.iload_n 2, 1) := by decide +kernel
theorem dX12_cut_62 : decode cX12_cut 62 = .ok (.bipush 32, 2) := by decide +kernel
theorem dX12_cut_64 : decode cX12_cut 64 = .ok (.if_icmp .ne 9, 3) := by decide +kernel
theorem dX12_cut_67 : decode cX12_cut 67 = .ok (.iinc 1 1, 3) := by decide +kernel
theorem dX12_cut_70 : decode cX12_cut 70 = .ok (.goto 221, 3) := by decide +kernel
theorem dX12_cut_73 : decode cX12_cut 73 = .ok (.iload_n 2, 1) := by decide +kernel
theorem dX12_cut_74 : decode cX12_cut 74 = .ok (.invokestatic 234, 3) := by decide +kernel
theorem dX12_cut_77 : decode cX12_cut 77 = .ok (.ifCond .eq 119, 3) := by decide +kernel
theorem dX12_cut_80 : decode cX12_cut 80 = .ok (.iconst 0, 1) := by decide +kernel
theorem dX12_cut_81 : decode cX12_cut 81 = .ok (.istore_n 3, 1) := by decide +kernel
theorem dX12_cut_82 : decode cX12_cut 82 = .ok (.lconst 0, 1) := by decide +kernel
theorem dX12_cut_83 : decode cX12_cut 83 = .ok (.lstore 4, 2) := by decide +kernel
theorem dX12_cut_85 : decode cX12_cut 85 = .ok (.aload_n 0, 1) := by decide +kernel
theorem dX12_cut_86 : decode cX12_cut 86 = .ok (.iload_n 1, 1) := by decide +kernel
theorem dX12_cut_87 : decode cX12_cut 87 = .ok (.iload_n 3, 1) := by decide +kernel
theorem dX12_cut_88 : decode cX12_cut 88 = .ok (.iadd, 1) := by decide +kernel
theorem dX12_cut_89 : decode cX12_cut 89 = .ok (.invokevirtual 226, 3) := by decide +kernel
theorem dX12_cut_92 : decode cX12_cut 92 = .ok (.invokestatic 234, 3) := by decide +kernel
theorem dX12_cut_95 : decode cX12_cut 95 = .ok (.ifCond .eq 29, 3) := by decide +kernel
theorem dX12_cut_98 : decode cX12_cut 98 = .ok (.iload_n 3, 1) := by decide +kernel
theorem dX12_cut_99 : decode cX12_cut 99 = .ok (.bipush 8, 2) := by decide +kernel
theorem dX12_cut_101 : decode cX12_cut 101 = .ok (.if_icmp .ge 17, 3) := by decide +kernel
theorem dX12_cut_104 : decode cX12_cut 104 = .ok (.lload 4, 2) := by decide +kernel
theorem dX12_cut_106 : decode cX12_cut 106 = .ok (.aload_n 0, 1) := by decide +kernel
theorem dX12_cut_107 : decode cX12_cut 107 = .ok (.iload_n 1, 1) := by decide +kernel
theorem dX12_cut_108 : decode cX12_cut 108 = .ok (.iload_n 3, 1) := by decide +kernel
theorem dX12_cut_109 : decode cX12_cut 109 = .ok (.iadd, 1) := by decide +kernel
theorem dX12_cut_110 : decode cX12_cut 110 = .ok (.invokevirtual 226, 3) := by decide +kernel
theorem dX12_cut_113 : decode cX12_cut 113 = .ok (.invokestatic 219, 3) := by decide +kernel
theorem dX12_cut_116 : decode cX12_cut 116 = .ok (.lstore 4, 2) := by decide +kernel
theorem dX12_cut_118 : decode cX12_cut 118 = .ok (.iinc 3 1, 3) := by decide +kernel
theorem dX12_cut_121 : decode cX12_cut 121 = .ok (.goto (-36), 3) := by decide +kernel
theorem dX12_cut_124 : decode cX12_cut 124 = .ok (.iload_n 3, 1) := by decide +kernel
theorem dX12_cut_125 : decode cX12_cut 125 = .ok (.bipush 8, 2) := by decide +kernel
theorem dX12_cut_127 : decode cX12_cut 127 = .ok (.if_icmp .le 7, 3) := by decide +kernel
theorem dX12_cut_130 : decode cX12_cut 130 = .ok (.iconst 3, 1) := by decide +kernel
theorem dX12_cut_131 : decode cX12_cut 131 = .ok (.goto 4, 3) := by decide +kernel
theorem dX12_cut_134 : decode cX12_cut 134 = .ok (.iconst 1, 1) := by decide +kernel
theorem dX12_cut_135 : decode cX12_cut 135 = .ok (.istore 6, 2) := by decide +kernel
theorem dX12_cut_137 : decode cX12_cut 137 = .ok (.iload_n 3, 1) := by decide +kernel
theorem dX12_cut_138 : decode cX12_cut 138 = .ok (.bipush 8, 2) := by decide +kernel
theorem dX12_cut_140 : decode cX12_cut 140 = .ok (.if_icmp .gt 39, 3) := by decide +kernel
theorem dX12_cut_143 : decode cX12_cut 143 = .ok (.iconst 0, 1) := by decide +kernel
theorem dX12_cut_144 : decode cX12_cut 144 = .ok (.istore 7, 2) := by decide +kernel
theorem dX12_cut_146 : decode cX12_cut 146 = .ok (.iload 7, 2) := by decide +kernel
theorem dX12_cut_148 : decode cX12_cut 148 = .ok (.bipush 17, 2) := by decide +kernel
theorem dX12_cut_150 : decode cX12_cut 150 = .ok (.if_icmp .ge 29, 3) := by decide +kernel
theorem dX12_cut_153 : decode cX12_cut 153 = .ok (.aload_n 0, 1) := by decide +kernel
theorem dX12_cut_154 : decode cX12_cut 154 = .ok (.getfield 34, 3) := by decide +kernel
theorem dX12_cut_157 : decode cX12_cut 157 = .ok (.iload 7, 2) := by decide +kernel
theorem dX12_cut_159 : decode cX12_cut 159 = .ok (.laload, 1) := by decide +kernel
theorem dX12_cut_160 : decode cX12_cut 160 = .ok (.lload 4, 2) := by decide +kernel
theorem dX12_cut_162 : decode cX12_cut 162 = .ok (.lcmp, 1) := by decide +kernel
theorem dX12_cut_163 : decode cX12_cut 163 = .ok (.ifCond .ne 10, 3) := by decide +kernel
theorem dX12_cut_166 : decode cX12_cut 166 = .ok (.bipush 20, 2) := by decide +kernel
theorem dX12_cut_168 : decode cX12_cut 168 = .ok (.iload 7, 2) := by decide +kernel
theorem dX12_cut_170 : decode cX12_cut 170 = .ok (.iadd, 1) := by decide +kernel
theorem dX12_cut_171 : decode cX12_cut 171 = .ok (.istore 6, 2) := by decide +kernel
theorem dX12_cut_173 : decode cX12_cut 173 = .ok (.iinc 7 1, 3) := by decide +kernel
theorem dX12_cut_176 : decode cX12_cut 176 = .ok (.goto (-30), 3) := by decide +kernel
theorem dX12_cut_179 : decode cX12_cut 179 = .ok (.aload_n 0, 1) := by decide +kernel
theorem dX12_cut_180 : decode cX12_cut 180 = .ok (.iload 6, 2) := by decide +kernel
theorem dX12_cut_182 : decode cX12_cut 182 = .ok (.iload_n 1, 1) := by decide +kernel
theorem dX12_cut_183 : decode cX12_cut 183 = .ok (.iconst 0, 1) := by decide +kernel
theorem dX12_cut_184 : decode cX12_cut 184 = .ok (.lload 4, 2) := by decide +kernel
theorem dX12_cut_186 : decode cX12_cut 186 = .ok (.invokevirtual 230, 3) := by decide +kernel
theorem dX12_cut_189 : decode cX12_cut 189 = .ok (.iload_n 1, 1) := by decide +kernel
theorem dX12_cut_190 : decode cX12_cut 190 = .ok (.iload_n 3, 1) := by decide +kernel
theorem dX12_cut_191 : decode cX12_cut 191 = .ok (.iadd, 1) := by decide +kernel
theorem dX12_cut_192 : decode cX12_cut 192 = .ok (.istore_n 1, 1) := by decide +kernel
theorem dX12_cut_193 : decode cX12_cut 193 = .ok (.goto 98, 3) := by decide +kernel
theorem dX12_cut_196 : decode cX12_cut 196 = .ok (.iload_n 2, 1) := by decide +kernel
theorem dX12_cut_197 : decode cX12_cut 197 = .ok (.invokestatic 238, 3) := by decide +kernel
theorem dX12_cut_200 : decode cX12_cut 200 = .ok (.ifCond .eq 75, 3) := by decide +kernel
theorem dX12_cut_203 : decode cX12_cut 203 = .ok (.iconst 0, 1) := by decide +kernel
theorem dX12_cut_204 : decode cX12_cut 204 = .ok (.istore_n 3, 1) := by decide +kernel
theorem dX12_cut_205 : decode cX12_cut 205 = .ok (.iconst 0, 1) := by decide +kernel
theorem dX12_cut_206 : decode cX12_cut 206 = .ok (.istore 4, 2) := by decide +kernel
theorem dX12_cut_208 : decode cX12_cut 208 = .ok (.aload_n 0, 1) := by decide +kernel
theorem dX12_cut_209 : decode cX12_cut 209 = .ok (.iload_n 1, 1) := by decide +kernel
theorem dX12_cut_210 : decode cX12_cut 210 = .ok (.iload_n 3, 1) := by decide +kernel
theorem dX12_cut_211 : decode cX12_cut 211 = .ok (.iadd, 1) := by decide +kernel
theorem dX12_cut_212 : decode cX12_cut 212 = .ok (.invokevirtual 226, 3) := by decide +kernel
theorem dX12_cut_215 : decode cX12_cut 215 = .ok (.invokestatic 238, 3) := by decide +kernel
theorem dX12_cut_218 : decode cX12_cut 218 = .ok (.ifCond .eq 32, 3) := by decide +kernel
theorem dX12_cut_221 : decode cX12_cut 221 = .ok (.iload_n 3, 1) := by decide +kernel
theorem dX12_cut_222 : decode cX12_cut 222 = .ok (.iconst 4, 1) := by decide +kernel
theorem dX12_cut_223 : decode cX12_cut 223 = .ok (.if_icmp .ge 21, 3) := by decide +kernel
theorem dX12_cut_226 : decode cX12_cut 226 = .ok (.bipush 10, 2) := by decide +kernel
theorem dX12_cut_228 : decode cX12_cut 228 = .ok (.iload 4, 2) := by decide +kernel
theorem dX12_cut_230 : decode cX12_cut 230 = .ok (.imul, 1) := by decide +kernel
theorem dX12_cut_231 : decode cX12_cut 231 = .ok (.aload_n 0, 1) := by decide +kernel
theorem dX12_cut_232 : decode cX12_cut 232 = .ok (.iload_n 1, 1) := by decide +kernel
theorem dX12_cut_233 : decode cX12_cut 233 = .ok (.iload_n 3, 1) := by decide +kernel
theorem dX12_cut_234 : decode cX12_cut 234 = .ok (.iadd, 1) := by decide +kernel
theorem dX12_cut_235 : decode cX12_cut 235 = .ok (.invokevirtual 226, 3) := by decide +kernel
theorem dX12_cut_238 : decode cX12_cut 238 = .ok (.iadd, 1) := by decide +kernel
theorem dX12_cut_239 : decode cX12_cut 239 = .ok (.bipush 48, 2) := by decide +kernel
theorem dX12_cut_241 : decode cX12_cut 241 = .ok (.isub, 1) := by decide +kernel
theorem dX12_cut_242 : decode cX12_cut 242 = .ok (.istore 4, 2) := by decide +kernel
theorem dX12_cut_244 : decode cX12_cut 244 = .ok (.iinc 3 1, 3) := by decide +kernel
theorem dX12_cut_247 : decode cX12_cut 247 = .ok (.goto (-39), 3) := by decide +kernel
theorem dX12_cut_250 : decode cX12_cut 250 = .ok (.aload_n 0, 1) := by decide +kernel
theorem dX12_cut_251 : decode cX12_cut 251 = .ok (.iload_n 3, 1) := by decide +kernel
theorem dX12_cut_252 : decode cX12_cut 252 = .ok (.iconst 4, 1) := by decide +kernel
theorem dX12_cut_253 : decode cX12_cut 253 = .ok (.if_icmp .le 7, 3) := by decide +kernel
theorem dX12_cut_256 : decode cX12_cut 256 = .ok (.iconst 3, 1) := by decide +kernel
theorem dX12_cut_257 : decode cX12_cut 257 = .ok (.goto 4, 3) := by decide +kernel
theorem dX12_cut_260 : decode cX12_cut 260 = .ok (.iconst 2, 1) := by decide +kernel
theorem dX12_cut_261 : decode cX12_cut 261 = .ok (.iload_n 1, 1) := by decide +kernel
theorem dX12_cut_262 : decode cX12_cut 262 = .ok (.iload 4, 2) := by decide +kernel
theorem dX12_cut_264 : decode cX12_cut 264 = .ok (.lconst 0, 1) := by decide +kernel
theorem dX12_cut_265 : decode cX12_cut 265 = .ok (.invokevirtual 230, 3) := by decide +kernel
theorem dX12_cut_268 : decode cX12_cut 268 = .ok (.iload_n 1, 1) := by decide +kernel
theorem dX12_cut_269 : decode cX12_cut 269 = .ok (.iload_n 3, 1) := by decide +kernel
theorem dX12_cut_270 : decode cX12_cut 270 = .ok (.iadd, 1) := by decide +kernel
theorem dX12_cut_271 : decode cX12_cut 271 = .ok (.istore_n 1, 1) := by decide +kernel
theorem dX12_cut_272 : decode cX12_cut 272 = .ok (.goto 19, 3) := by decide +kernel
theorem dX12_cut_275 : decode cX12_cut 275 = .ok (.iload_n 1, 1) := by decide +kernel
theorem dX12_cut_276 : decode cX12_cut 276 = .ok (.aload_n 0, 1) := by decide +kernel
theorem dX12_cut_277 : decode cX12_cut 277 = .ok (.iload_n 1, 1) := by decide +kernel
theorem dX12_cut_278 : decode cX12_cut 278 = .ok (.iload_n 2, 1) := by decide +kernel
theorem dX12_cut_279 : decode cX12_cut 279 = .ok (.aload_n 0, 1) := by decide +kernel
theorem dX12_cut_280 : decode cX12_cut 280 = .ok (.iload_n 1, 1) := by decide +kernel
theorem dX12_cut_281 : decode cX12_cut 281 = .ok (.iconst 1, 1) := by decide +kernel
theorem dX12_cut_282 : decode cX12_cut 282 = .ok (.iadd, 1) := by decide +kernel
theorem dX12_cut_283 : decode cX12_cut 283 = .ok (.invokevirtual 226, 3) := by decide +kernel
theorem dX12_cut_286 : decode cX12_cut 286 = .ok (.invokevirtual 241, 3) := by decide +kernel
theorem dX12_cut_289 : decode cX12_cut 289 = .ok (.iadd, 1) := by decide +kernel
theorem dX12_cut_290 : decode cX12_cut 290 = .ok (.istore_n 1, 1) := by decide +kernel
theorem dX12_cut_291 : decode cX12_cut 291 = .ok (.goto (-284), 3) := by decide +kernel
theorem dX12_cut_294 : decode cX12_cut 294 = .ok (.return_, 1) := by decide +kernel
def fX12_cut_261 (k7 : Int → Int → V_ → Option (Int × V_)) (x0 x1 x3 x4 s0 s1 : Int) (v : V_) : Option (Int × V_) :=
  bd_ (fX12_token s0 s1 x1 x4 0 v) fun q23 =>
  lt_ (wr_ (x1 + x3)) fun y24 =>
  k7 x0 y24 q23.2
def fX12_cut_208 (k7 : Int → Int → V_ → Option (Int × V_)) : Nat → Int → Int → Int → Int → V_ → Option (Int × V_)
  | 0, _, _, _, _, _ => none
  | n + 1, x0, x1, x3, x4, v =>
    bd_ (fX12_byteAt x0 (wr_ (x1 + x3)) v) fun q19 =>
    bd_ (fX12_isDigit q19.1 q19.2) fun q20 =>
    if q20.1 = 0 then (
      if x3 ≤ 4 then (
        fX12_cut_261 k7 x0 x1 x3 x4 x0 2 q20.2)
      else (
        fX12_cut_261 k7 x0 x1 x3 x4 x0 3 q20.2))
    else (
      if 4 ≤ x3 then (
        lt_ (wr_ (x3 + 1)) fun y26 =>
        (fX12_cut_208 k7 n) x0 x1 y26 x4 q20.2)
      else (
        bd_ (fX12_byteAt x0 (wr_ (x1 + x3)) q20.2) fun q27 =>
        lt_ (wr_ ((wr_ ((wr_ (10 * x4)) + q27.1)) - 48)) fun y28 =>
        lt_ (wr_ (x3 + 1)) fun y29 =>
        (fX12_cut_208 k7 n) x0 x1 y29 y28 q27.2))
def fX12_cut_179 (k7 : Int → Int → V_ → Option (Int × V_)) (x0 x1 x3 x4 x6 : Int) (v : V_) : Option (Int × V_) :=
  bd_ (fX12_token x0 x6 x1 0 x4 v) fun q35 =>
  lt_ (wr_ (x1 + x3)) fun y36 =>
  k7 x0 y36 q35.2
def fX12_cut_146 (k7 : Int → Int → V_ → Option (Int × V_)) : Nat → Int → Int → Int → Int → Int → Int → V_ → Option (Int × V_)
  | 0, _, _, _, _, _, _, _ => none
  | n + 1, x0, x1, x3, x4, x6, x7, v =>
    if 17 ≤ x7 then (
      fX12_cut_179 k7 x0 x1 x3 x4 x6 v)
    else (
      ck_ (0 ≤ x7 ∧ x7 < 17) (
      if (lc_ (v (x0 + 7) x7) x4) = 0 then (
        lt_ (wr_ (20 + x7)) fun y42 =>
        lt_ (wr_ (x7 + 1)) fun y43 =>
        (fX12_cut_146 k7 n) x0 x1 x3 x4 y42 y43 v)
      else (
        lt_ (wr_ (x7 + 1)) fun y41 =>
        (fX12_cut_146 k7 n) x0 x1 x3 x4 x6 y41 v)))
def fX12_cut_135 (k7 : Int → Int → V_ → Option (Int × V_)) (x0 x1 x3 x4 s0 : Int) (v : V_) : Option (Int × V_) :=
  if 8 < x3 then (
    fX12_cut_179 k7 x0 x1 x3 x4 s0 v)
  else (
    fX12_cut_146 k7 fu_ x0 x1 x3 x4 s0 0 v)
def fX12_cut_85 (k7 : Int → Int → V_ → Option (Int × V_)) : Nat → Int → Int → Int → Int → V_ → Option (Int × V_)
  | 0, _, _, _, _, _ => none
  | n + 1, x0, x1, x3, x4, v =>
    bd_ (fX12_byteAt x0 (wr_ (x1 + x3)) v) fun q30 =>
    bd_ (fX12_isLetter q30.1 q30.2) fun q31 =>
    if q31.1 = 0 then (
      if x3 ≤ 8 then (
        fX12_cut_135 k7 x0 x1 x3 x4 1 q31.2)
      else (
        fX12_cut_135 k7 x0 x1 x3 x4 3 q31.2))
    else (
      if 8 ≤ x3 then (
        lt_ (wr_ (x3 + 1)) fun y45 =>
        (fX12_cut_85 k7 n) x0 x1 y45 x4 q31.2)
      else (
        bd_ (fX12_byteAt x0 (wr_ (x1 + x3)) q31.2) fun q46 =>
        bd_ (fX12_appends x4 q46.1 q46.2) fun q47 =>
        lt_ (wr_ (x3 + 1)) fun y48 =>
        (fX12_cut_85 k7 n) x0 x1 y48 q47.1 q47.2))
def fX12_cut_7 : Nat → Int → Int → V_ → Option (Int × V_)
  | 0, _, _, _ => none
  | n + 1, x0, x1, v =>
    if 400 < (v x0 10) then (
      some (0, v))
    else (
      bd_ (fX12_byteAt x0 x1 v) fun q3 =>
      if x1 < (q3.2 x0 4) then (
        if q3.1 = 9 then (
          lt_ (wr_ (x1 + 1)) fun y6 =>
          (fX12_cut_7 n) x0 y6 q3.2)
        else (
          if q3.1 = 10 then (
            lt_ (wr_ (x1 + 1)) fun y8 =>
            (fX12_cut_7 n) x0 y8 q3.2)
          else (
            if q3.1 = 13 then (
              lt_ (wr_ (x1 + 1)) fun y10 =>
              (fX12_cut_7 n) x0 y10 q3.2)
            else (
              if q3.1 = 32 then (
                lt_ (wr_ (x1 + 1)) fun y49 =>
                (fX12_cut_7 n) x0 y49 q3.2)
              else (
                bd_ (fX12_isLetter q3.1 q3.2) fun q12 =>
                if q12.1 = 0 then (
                  bd_ (fX12_isDigit q3.1 q12.2) fun q14 =>
                  if q14.1 = 0 then (
                    bd_ (fX12_byteAt x0 (wr_ (x1 + 1)) q14.2) fun q16 =>
                    bd_ (fX12_sign x0 x1 q3.1 q16.1 q16.2) fun q17 =>
                    lt_ (wr_ (x1 + q17.1)) fun y18 =>
                    (fX12_cut_7 n) x0 y18 q17.2)
                  else (
                    fX12_cut_208 (fX12_cut_7 n) fu_ x0 x1 0 0 q14.2))
                else (
                  fX12_cut_85 (fX12_cut_7 n) fu_ x0 x1 0 0 q12.2))))))
      else (
        bd_ (fX12_token x0 0 (q3.2 x0 4) 0 0 q3.2) fun q50 =>
        some (0, q50.2)))
def fX12_cut (x0 : Int) (v : V_) : Option (Int × V_) :=
  lt_ (up_ v x0 10 0) fun v1 =>
  fX12_cut_7 fu_ x0 0 v1
section
variable {E : En_} {p : Program} {l : Launch} {e : Env} {s : State} {m : MethodId} {args : Array Value} {below : List Frame} {meth : Method} {c : Code} {sz : Int}
theorem tX12_cut_261 (C : MC_ E p s m c cX12_cut 8 RX12) (hr : meth.sig.returnType = (none : Option FieldType)) (hlk : meth.locks = false) (hC : Cl_ E.2.2.2.2.2 sz) {out : Int × V_} (k7 : Int → Int → V_ → Option (Int × V_)) (H_7 : ∀ (x0 x1 : Int) (v : V_), (E.2.2.2.2.2 x0 ∧ ty_ x0 = 12 ∧ ln_ x0 = 0) → k7 x0 x1 v = some out → G_ E p l e (rm_ 2 49) s m args below meth c 8 sz (Q_ E below args s sz sz 9 out.1 out.2) 7 [(0, (2, x0)), (1, (0, x1))] [] v sz) (x0 x1 x3 x4 s0 s1 : Int) (v : V_) (T0 : (E.2.2.2.2.2 x0 ∧ ty_ x0 = 12 ∧ ln_ x0 = 0)) (S0 : (E.2.2.2.2.2 s0 ∧ ty_ s0 = 12 ∧ ln_ s0 = 0)) (h : fX12_cut_261 k7 x0 x1 x3 x4 s0 s1 v = some out) : G_ E p l e (rm_ 2 49) s m args below meth c 8 sz (Q_ E below args s sz sz 9 out.1 out.2) 261 [(0, (2, x0)), (1, (0, x1)), (3, (0, x3)), (4, (0, x4))] [(0, s1), (2, s0)] v sz := by
  rw [fX12_cut_261] at h
  refine g_iload_n C (f := 1) dX12_cut_261 1 rfl ?_
  refine g_iload C (i := 4) dX12_cut_262 3 rfl ?_
  refine g_lconst C (z := 0) dX12_cut_264 (by decide) ?_
  obtain ⟨q23, eq23, h⟩ := bd_e h
  refine g_cV C [(0, s1), (0, x1), (0, x4), (1, 0)] (cX12_token_ok l hC S0 eq23) okX12 S0.2.1 (rg_ hC S0.1) km_RX12_230 cv_X12_token rfl (by decide) rfl rfl (Nat.le_of_ble_eq_true rfl) dX12_cut_265 ?_
  refine g_iload_n C (f := 1) dX12_cut_268 1 rfl ?_
  refine g_iload_n C (f := 3) dX12_cut_269 2 rfl ?_
  refine g_iadd C dX12_cut_270 ?_
  obtain ⟨y24, ey24, h⟩ := lt_e h
  refine g_set C ey24 ?_
  refine g_istore_n C (f := 1) (ls' := [(1, (0, y24)), (0, (2, x0)), (3, (0, x3)), (4, (0, x4))]) dX12_cut_271 (by decide) rfl ?_
  refine g_goto C 291 dX12_cut_272 rfl ?_
  refine g_goto C 7 dX12_cut_291 rfl ?_
  refine g_sub [1, 0] rfl rfl ?_
  exact H_7 _ _ _ T0 h
theorem tX12_cut_208 (C : MC_ E p s m c cX12_cut 8 RX12) (hr : meth.sig.returnType = (none : Option FieldType)) (hlk : meth.locks = false) (hC : Cl_ E.2.2.2.2.2 sz) {out : Int × V_} (k7 : Int → Int → V_ → Option (Int × V_)) (H_7 : ∀ (x0 x1 : Int) (v : V_), (E.2.2.2.2.2 x0 ∧ ty_ x0 = 12 ∧ ln_ x0 = 0) → k7 x0 x1 v = some out → G_ E p l e (rm_ 2 49) s m args below meth c 8 sz (Q_ E below args s sz sz 9 out.1 out.2) 7 [(0, (2, x0)), (1, (0, x1))] [] v sz) : ∀ (n : Nat) (x0 x1 x3 x4 : Int) (v : V_), (E.2.2.2.2.2 x0 ∧ ty_ x0 = 12 ∧ ln_ x0 = 0) → fX12_cut_208 k7 n x0 x1 x3 x4 v = some out → G_ E p l e (rm_ 2 49) s m args below meth c 8 sz (Q_ E below args s sz sz 9 out.1 out.2) 208 [(0, (2, x0)), (1, (0, x1)), (3, (0, x3)), (4, (0, x4))] [] v sz := by
  intro n
  induction n with
  | zero =>
    intro x0 x1 x3 x4 v T0 h
    cases h
  | succ n H_208 =>
    intro x0 x1 x3 x4 v T0 h
    rw [fX12_cut_208] at h
    refine g_aload_n C (f := 0) dX12_cut_208 0 rfl ?_
    refine g_iload_n C (f := 1) dX12_cut_209 1 rfl ?_
    refine g_iload_n C (f := 3) dX12_cut_210 2 rfl ?_
    refine g_iadd C dX12_cut_211 ?_
    obtain ⟨q19, eq19, h⟩ := bd_e h
    refine g_cV C [(0, wr_ (x1 + x3))] (cX12_byteAt_ok l hC T0 eq19) okX12 T0.2.1 (rg_ hC T0.1) km_RX12_226 cv_X12_byteAt rfl (by decide) rfl rfl (Nat.le_of_ble_eq_true rfl) dX12_cut_212 ?_
    obtain ⟨q20, eq20, h⟩ := bd_e h
    refine g_cS C [(0, q19.1)] (cX12_isDigit_ok l hC eq20) km_RX12_238 cs_X12_isDigit rfl (by decide) rfl rfl (Nat.le_of_ble_eq_true rfl) dX12_cut_215 ?_
    refine g_if_eq C 250 dX12_cut_218 rfl (fun c21 => ?_) (fun c21 => ?_)
    · replace h := if_t h c21
      refine g_aload_n C (f := 0) dX12_cut_250 0 rfl ?_
      refine g_iload_n C (f := 3) dX12_cut_251 2 rfl ?_
      refine g_iconst C (n := 4) dX12_cut_252 (by decide) ?_
      refine g_icmp_le C 260 dX12_cut_253 rfl (fun c22 => ?_) (fun c22 => ?_)
      · replace h := if_t h c22
        refine g_iconst C (n := 2) dX12_cut_260 (by decide) ?_
        refine g_sub [0, 1, 2, 3] rfl rfl ?_
        exact tX12_cut_261 C hr hlk hC _ H_7 _ _ _ _ _ _ _ T0 T0 h
      · replace h := if_f h c22
        refine g_iconst C (n := 3) dX12_cut_256 (by decide) ?_
        refine g_goto C 261 dX12_cut_257 rfl ?_
        refine g_sub [0, 1, 2, 3] rfl rfl ?_
        exact tX12_cut_261 C hr hlk hC _ H_7 _ _ _ _ _ _ _ T0 T0 h
    · replace h := if_f h c21
      refine g_iload_n C (f := 3) dX12_cut_221 2 rfl ?_
      refine g_iconst C (n := 4) dX12_cut_222 (by decide) ?_
      refine g_icmp_ge C 244 dX12_cut_223 rfl (fun c25 => ?_) (fun c25 => ?_)
      · replace h := if_t h c25
        obtain ⟨y26, ey26, h⟩ := lt_e h
        refine g_iincx C (ls' := [(3, (0, y26)), (0, (2, x0)), (1, (0, x1)), (4, (0, x4))]) ey26 dX12_cut_244 2 rfl (by decide) (by decide) rfl ?_
        refine g_goto C 208 dX12_cut_247 rfl ?_
        refine g_sub [1, 2, 0, 3] rfl rfl ?_
        exact H_208 _ _ _ _ _ T0 h
      · replace h := if_f h c25
        refine g_bipush C (n := 10) dX12_cut_226 (by decide) ?_
        refine g_iload C (i := 4) dX12_cut_228 3 rfl ?_
        refine g_imul C dX12_cut_230 ?_
        refine g_aload_n C (f := 0) dX12_cut_231 0 rfl ?_
        refine g_iload_n C (f := 1) dX12_cut_232 1 rfl ?_
        refine g_iload_n C (f := 3) dX12_cut_233 2 rfl ?_
        refine g_iadd C dX12_cut_234 ?_
        obtain ⟨q27, eq27, h⟩ := bd_e h
        refine g_cV C [(0, wr_ (x1 + x3))] (cX12_byteAt_ok l hC T0 eq27) okX12 T0.2.1 (rg_ hC T0.1) km_RX12_226 cv_X12_byteAt rfl (by decide) rfl rfl (Nat.le_of_ble_eq_true rfl) dX12_cut_235 ?_
        refine g_iadd C dX12_cut_238 ?_
        refine g_bipush C (n := 48) dX12_cut_239 (by decide) ?_
        refine g_isub C dX12_cut_241 ?_
        obtain ⟨y28, ey28, h⟩ := lt_e h
        refine g_set C ey28 ?_
        refine g_istore C (i := 4) (ls' := [(4, (0, y28)), (0, (2, x0)), (1, (0, x1)), (3, (0, x3))]) dX12_cut_242 (by decide) rfl ?_
        obtain ⟨y29, ey29, h⟩ := lt_e h
        refine g_iincx C (ls' := [(3, (0, y29)), (4, (0, y28)), (0, (2, x0)), (1, (0, x1))]) ey29 dX12_cut_244 3 rfl (by decide) (by decide) rfl ?_
        refine g_goto C 208 dX12_cut_247 rfl ?_
        refine g_sub [2, 3, 0, 1] rfl rfl ?_
        exact H_208 _ _ _ _ _ T0 h
theorem tX12_cut_179 (C : MC_ E p s m c cX12_cut 8 RX12) (hr : meth.sig.returnType = (none : Option FieldType)) (hlk : meth.locks = false) (hC : Cl_ E.2.2.2.2.2 sz) {out : Int × V_} (k7 : Int → Int → V_ → Option (Int × V_)) (H_7 : ∀ (x0 x1 : Int) (v : V_), (E.2.2.2.2.2 x0 ∧ ty_ x0 = 12 ∧ ln_ x0 = 0) → k7 x0 x1 v = some out → G_ E p l e (rm_ 2 49) s m args below meth c 8 sz (Q_ E below args s sz sz 9 out.1 out.2) 7 [(0, (2, x0)), (1, (0, x1))] [] v sz) (x0 x1 x3 x4 x6 : Int) (v : V_) (T0 : (E.2.2.2.2.2 x0 ∧ ty_ x0 = 12 ∧ ln_ x0 = 0)) (h : fX12_cut_179 k7 x0 x1 x3 x4 x6 v = some out) : G_ E p l e (rm_ 2 49) s m args below meth c 8 sz (Q_ E below args s sz sz 9 out.1 out.2) 179 [(0, (2, x0)), (1, (0, x1)), (3, (0, x3)), (4, (1, x4)), (6, (0, x6))] [] v sz := by
  rw [fX12_cut_179] at h
  refine g_aload_n C (f := 0) dX12_cut_179 0 rfl ?_
  refine g_iload C (i := 6) dX12_cut_180 4 rfl ?_
  refine g_iload_n C (f := 1) dX12_cut_182 1 rfl ?_
  refine g_iconst C (n := 0) dX12_cut_183 (by decide) ?_
  refine g_lload C (i := 4) dX12_cut_184 3 rfl ?_
  obtain ⟨q35, eq35, h⟩ := bd_e h
  refine g_cV C [(0, x6), (0, x1), (0, 0), (1, x4)] (cX12_token_ok l hC T0 eq35) okX12 T0.2.1 (rg_ hC T0.1) km_RX12_230 cv_X12_token rfl (by decide) rfl rfl (Nat.le_of_ble_eq_true rfl) dX12_cut_186 ?_
  refine g_iload_n C (f := 1) dX12_cut_189 1 rfl ?_
  refine g_iload_n C (f := 3) dX12_cut_190 2 rfl ?_
  refine g_iadd C dX12_cut_191 ?_
  obtain ⟨y36, ey36, h⟩ := lt_e h
  refine g_set C ey36 ?_
  refine g_istore_n C (f := 1) (ls' := [(1, (0, y36)), (0, (2, x0)), (3, (0, x3)), (4, (1, x4)), (6, (0, x6))]) dX12_cut_192 (by decide) rfl ?_
  refine g_goto C 291 dX12_cut_193 rfl ?_
  refine g_goto C 7 dX12_cut_291 rfl ?_
  refine g_sub [1, 0] rfl rfl ?_
  exact H_7 _ _ _ T0 h
theorem tX12_cut_146 (C : MC_ E p s m c cX12_cut 8 RX12) (hr : meth.sig.returnType = (none : Option FieldType)) (hlk : meth.locks = false) (hC : Cl_ E.2.2.2.2.2 sz) {out : Int × V_} (k7 : Int → Int → V_ → Option (Int × V_)) (H_7 : ∀ (x0 x1 : Int) (v : V_), (E.2.2.2.2.2 x0 ∧ ty_ x0 = 12 ∧ ln_ x0 = 0) → k7 x0 x1 v = some out → G_ E p l e (rm_ 2 49) s m args below meth c 8 sz (Q_ E below args s sz sz 9 out.1 out.2) 7 [(0, (2, x0)), (1, (0, x1))] [] v sz) : ∀ (n : Nat) (x0 x1 x3 x4 x6 x7 : Int) (v : V_), (E.2.2.2.2.2 x0 ∧ ty_ x0 = 12 ∧ ln_ x0 = 0) → fX12_cut_146 k7 n x0 x1 x3 x4 x6 x7 v = some out → G_ E p l e (rm_ 2 49) s m args below meth c 8 sz (Q_ E below args s sz sz 9 out.1 out.2) 146 [(0, (2, x0)), (1, (0, x1)), (3, (0, x3)), (4, (1, x4)), (6, (0, x6)), (7, (0, x7))] [] v sz := by
  intro n
  induction n with
  | zero =>
    intro x0 x1 x3 x4 x6 x7 v T0 h
    cases h
  | succ n H_146 =>
    intro x0 x1 x3 x4 x6 x7 v T0 h
    rw [fX12_cut_146] at h
    refine g_iload C (i := 7) dX12_cut_146 5 rfl ?_
    refine g_bipush C (n := 17) dX12_cut_148 (by decide) ?_
    refine g_icmp_ge C 179 dX12_cut_150 rfl (fun c37 => ?_) (fun c37 => ?_)
    · replace h := if_t h c37
      refine g_sub [0, 1, 2, 3, 4] rfl rfl ?_
      exact tX12_cut_179 C hr hlk hC _ H_7 _ _ _ _ _ _ T0 h
    · replace h := if_f h c37
      refine g_aload_n C (f := 0) dX12_cut_153 0 rfl ?_
      have F38 := fX12_9 hC T0.1 T0.2.1
      refine g_getR C (k := 9) (o := 7) okX12 (by decide) kf_RX12_34 dX12_cut_154 hC T0.1 T0.2.1 rfl rfl ?_
      refine g_iload C (i := 7) dX12_cut_157 5 rfl ?_
      obtain ⟨c39, h⟩ := ck_e h
      refine g_lald C 17 dX12_cut_159 (rg_ hC F38.1) F38.2.1 F38.2.2 c39 ?_
      refine g_lload C (i := 4) dX12_cut_160 3 rfl ?_
      refine g_lcmp C dX12_cut_162 ?_
      refine g_if_ne C 173 dX12_cut_163 rfl (fun c40 => ?_) (fun c40 => ?_)
      · replace h := if_f h c40
        obtain ⟨y41, ey41, h⟩ := lt_e h
        refine g_iincx C (ls' := [(7, (0, y41)), (0, (2, x0)), (1, (0, x1)), (3, (0, x3)), (4, (1, x4)), (6, (0, x6))]) ey41 dX12_cut_173 5 rfl (by decide) (by decide) rfl ?_
        refine g_goto C 146 dX12_cut_176 rfl ?_
        refine g_sub [1, 2, 3, 4, 5, 0] rfl rfl ?_
        exact H_146 _ _ _ _ _ _ _ T0 h
      · replace h := if_t h c40
        refine g_bipush C (n := 20) dX12_cut_166 (by decide) ?_
        refine g_iload C (i := 7) dX12_cut_168 5 rfl ?_
        refine g_iadd C dX12_cut_170 ?_
        obtain ⟨y42, ey42, h⟩ := lt_e h
        refine g_set C ey42 ?_
        refine g_istore C (i := 6) (ls' := [(6, (0, y42)), (0, (2, x0)), (1, (0, x1)), (3, (0, x3)), (4, (1, x4)), (7, (0, x7))]) dX12_cut_171 (by decide) rfl ?_
        obtain ⟨y43, ey43, h⟩ := lt_e h
        refine g_iincx C (ls' := [(7, (0, y43)), (6, (0, y42)), (0, (2, x0)), (1, (0, x1)), (3, (0, x3)), (4, (1, x4))]) ey43 dX12_cut_173 5 rfl (by decide) (by decide) rfl ?_
        refine g_goto C 146 dX12_cut_176 rfl ?_
        refine g_sub [2, 3, 4, 5, 1, 0] rfl rfl ?_
        exact H_146 _ _ _ _ _ _ _ T0 h
theorem tX12_cut_135 (C : MC_ E p s m c cX12_cut 8 RX12) (hr : meth.sig.returnType = (none : Option FieldType)) (hlk : meth.locks = false) (hC : Cl_ E.2.2.2.2.2 sz) {out : Int × V_} (k7 : Int → Int → V_ → Option (Int × V_)) (H_7 : ∀ (x0 x1 : Int) (v : V_), (E.2.2.2.2.2 x0 ∧ ty_ x0 = 12 ∧ ln_ x0 = 0) → k7 x0 x1 v = some out → G_ E p l e (rm_ 2 49) s m args below meth c 8 sz (Q_ E below args s sz sz 9 out.1 out.2) 7 [(0, (2, x0)), (1, (0, x1))] [] v sz) (x0 x1 x3 x4 s0 : Int) (v : V_) (T0 : (E.2.2.2.2.2 x0 ∧ ty_ x0 = 12 ∧ ln_ x0 = 0)) (h : fX12_cut_135 k7 x0 x1 x3 x4 s0 v = some out) : G_ E p l e (rm_ 2 49) s m args below meth c 8 sz (Q_ E below args s sz sz 9 out.1 out.2) 135 [(0, (2, x0)), (1, (0, x1)), (3, (0, x3)), (4, (1, x4))] [(0, s0)] v sz := by
  rw [fX12_cut_135] at h
  refine g_istore C (i := 6) (ls' := [(6, (0, s0)), (0, (2, x0)), (1, (0, x1)), (3, (0, x3)), (4, (1, x4))]) dX12_cut_135 (by decide) rfl ?_
  refine g_iload_n C (f := 3) dX12_cut_137 3 rfl ?_
  refine g_bipush C (n := 8) dX12_cut_138 (by decide) ?_
  refine g_icmp_gt C 179 dX12_cut_140 rfl (fun c34 => ?_) (fun c34 => ?_)
  · replace h := if_t h c34
    refine g_sub [1, 2, 3, 4, 0] rfl rfl ?_
    exact tX12_cut_179 C hr hlk hC _ H_7 _ _ _ _ _ _ T0 h
  · replace h := if_f h c34
    refine g_iconst C (n := 0) dX12_cut_143 (by decide) ?_
    refine g_istore C (i := 7) (ls' := [(7, (0, 0)), (6, (0, s0)), (0, (2, x0)), (1, (0, x1)), (3, (0, x3)), (4, (1, x4))]) dX12_cut_144 (by decide) rfl ?_
    refine g_sub [2, 3, 4, 5, 1, 0] rfl rfl ?_
    exact tX12_cut_146 C hr hlk hC _ H_7 _ _ _ _ _ _ _ _ T0 h
theorem tX12_cut_85 (C : MC_ E p s m c cX12_cut 8 RX12) (hr : meth.sig.returnType = (none : Option FieldType)) (hlk : meth.locks = false) (hC : Cl_ E.2.2.2.2.2 sz) {out : Int × V_} (k7 : Int → Int → V_ → Option (Int × V_)) (H_7 : ∀ (x0 x1 : Int) (v : V_), (E.2.2.2.2.2 x0 ∧ ty_ x0 = 12 ∧ ln_ x0 = 0) → k7 x0 x1 v = some out → G_ E p l e (rm_ 2 49) s m args below meth c 8 sz (Q_ E below args s sz sz 9 out.1 out.2) 7 [(0, (2, x0)), (1, (0, x1))] [] v sz) : ∀ (n : Nat) (x0 x1 x3 x4 : Int) (v : V_), (E.2.2.2.2.2 x0 ∧ ty_ x0 = 12 ∧ ln_ x0 = 0) → fX12_cut_85 k7 n x0 x1 x3 x4 v = some out → G_ E p l e (rm_ 2 49) s m args below meth c 8 sz (Q_ E below args s sz sz 9 out.1 out.2) 85 [(0, (2, x0)), (1, (0, x1)), (3, (0, x3)), (4, (1, x4))] [] v sz := by
  intro n
  induction n with
  | zero =>
    intro x0 x1 x3 x4 v T0 h
    cases h
  | succ n H_85 =>
    intro x0 x1 x3 x4 v T0 h
    rw [fX12_cut_85] at h
    refine g_aload_n C (f := 0) dX12_cut_85 0 rfl ?_
    refine g_iload_n C (f := 1) dX12_cut_86 1 rfl ?_
    refine g_iload_n C (f := 3) dX12_cut_87 2 rfl ?_
    refine g_iadd C dX12_cut_88 ?_
    obtain ⟨q30, eq30, h⟩ := bd_e h
    refine g_cV C [(0, wr_ (x1 + x3))] (cX12_byteAt_ok l hC T0 eq30) okX12 T0.2.1 (rg_ hC T0.1) km_RX12_226 cv_X12_byteAt rfl (by decide) rfl rfl (Nat.le_of_ble_eq_true rfl) dX12_cut_89 ?_
    obtain ⟨q31, eq31, h⟩ := bd_e h
    refine g_cS C [(0, q30.1)] (cX12_isLetter_ok l hC eq31) km_RX12_234 cs_X12_isLetter rfl (by decide) rfl rfl (Nat.le_of_ble_eq_true rfl) dX12_cut_92 ?_
    refine g_if_eq C 124 dX12_cut_95 rfl (fun c32 => ?_) (fun c32 => ?_)
    · replace h := if_t h c32
      refine g_iload_n C (f := 3) dX12_cut_124 2 rfl ?_
      refine g_bipush C (n := 8) dX12_cut_125 (by decide) ?_
      refine g_icmp_le C 134 dX12_cut_127 rfl (fun c33 => ?_) (fun c33 => ?_)
      · replace h := if_t h c33
        refine g_iconst C (n := 1) dX12_cut_134 (by decide) ?_
        refine g_sub [0, 1, 2, 3] rfl rfl ?_
        exact tX12_cut_135 C hr hlk hC _ H_7 _ _ _ _ _ _ T0 h
      · replace h := if_f h c33
        refine g_iconst C (n := 3) dX12_cut_130 (by decide) ?_
        refine g_goto C 135 dX12_cut_131 rfl ?_
        refine g_sub [0, 1, 2, 3] rfl rfl ?_
        exact tX12_cut_135 C hr hlk hC _ H_7 _ _ _ _ _ _ T0 h
    · replace h := if_f h c32
      refine g_iload_n C (f := 3) dX12_cut_98 2 rfl ?_
      refine g_bipush C (n := 8) dX12_cut_99 (by decide) ?_
      refine g_icmp_ge C 118 dX12_cut_101 rfl (fun c44 => ?_) (fun c44 => ?_)
      · replace h := if_t h c44
        obtain ⟨y45, ey45, h⟩ := lt_e h
        refine g_iincx C (ls' := [(3, (0, y45)), (0, (2, x0)), (1, (0, x1)), (4, (1, x4))]) ey45 dX12_cut_118 2 rfl (by decide) (by decide) rfl ?_
        refine g_goto C 85 dX12_cut_121 rfl ?_
        refine g_sub [1, 2, 0, 3] rfl rfl ?_
        exact H_85 _ _ _ _ _ T0 h
      · replace h := if_f h c44
        refine g_lload C (i := 4) dX12_cut_104 3 rfl ?_
        refine g_aload_n C (f := 0) dX12_cut_106 0 rfl ?_
        refine g_iload_n C (f := 1) dX12_cut_107 1 rfl ?_
        refine g_iload_n C (f := 3) dX12_cut_108 2 rfl ?_
        refine g_iadd C dX12_cut_109 ?_
        obtain ⟨q46, eq46, h⟩ := bd_e h
        refine g_cV C [(0, wr_ (x1 + x3))] (cX12_byteAt_ok l hC T0 eq46) okX12 T0.2.1 (rg_ hC T0.1) km_RX12_226 cv_X12_byteAt rfl (by decide) rfl rfl (Nat.le_of_ble_eq_true rfl) dX12_cut_110 ?_
        obtain ⟨q47, eq47, h⟩ := bd_e h
        refine g_cS C [(1, x4), (0, q46.1)] (cX12_appends_ok l hC eq47) km_RX12_219 cs_X12_appends rfl (by decide) rfl rfl (Nat.le_of_ble_eq_true rfl) dX12_cut_113 ?_
        refine g_lstore C (i := 4) (ls' := [(4, (1, q47.1)), (0, (2, x0)), (1, (0, x1)), (3, (0, x3))]) dX12_cut_116 (by decide) rfl ?_
        obtain ⟨y48, ey48, h⟩ := lt_e h
        refine g_iincx C (ls' := [(3, (0, y48)), (4, (1, q47.1)), (0, (2, x0)), (1, (0, x1))]) ey48 dX12_cut_118 3 rfl (by decide) (by decide) rfl ?_
        refine g_goto C 85 dX12_cut_121 rfl ?_
        refine g_sub [2, 3, 0, 1] rfl rfl ?_
        exact H_85 _ _ _ _ _ T0 h
theorem tX12_cut_7 (C : MC_ E p s m c cX12_cut 8 RX12) (hr : meth.sig.returnType = (none : Option FieldType)) (hlk : meth.locks = false) (hC : Cl_ E.2.2.2.2.2 sz) {out : Int × V_} : ∀ (n : Nat) (x0 x1 : Int) (v : V_), (E.2.2.2.2.2 x0 ∧ ty_ x0 = 12 ∧ ln_ x0 = 0) → fX12_cut_7 n x0 x1 v = some out → G_ E p l e (rm_ 2 49) s m args below meth c 8 sz (Q_ E below args s sz sz 9 out.1 out.2) 7 [(0, (2, x0)), (1, (0, x1))] [] v sz := by
  intro n
  induction n with
  | zero =>
    intro x0 x1 v T0 h
    cases h
  | succ n H_7 =>
    intro x0 x1 v T0 h
    rw [fX12_cut_7] at h
    refine g_aload_n C (f := 0) dX12_cut_7 0 rfl ?_
    refine g_getf C (k := 10) (kd := 0) okX12 (by decide) kf_RX12_223 dX12_cut_8 (rg_ hC T0.1) T0.2.1 rfl ?_
    refine g_sipush C (n := 400) dX12_cut_11 (by decide) ?_
    refine g_icmp_gt C 294 dX12_cut_14 rfl (fun c2 => ?_) (fun c2 => ?_)
    · replace h := if_t h c2
      cases h
      exact g_vret C dX12_cut_294 hr hlk
    · replace h := if_f h c2
      refine g_aload_n C (f := 0) dX12_cut_17 0 rfl ?_
      refine g_iload_n C (f := 1) dX12_cut_18 1 rfl ?_
      obtain ⟨q3, eq3, h⟩ := bd_e h
      refine g_cV C [(0, x1)] (cX12_byteAt_ok l hC T0 eq3) okX12 T0.2.1 (rg_ hC T0.1) km_RX12_226 cv_X12_byteAt rfl (by decide) rfl rfl (Nat.le_of_ble_eq_true rfl) dX12_cut_19 ?_
      refine g_istore_n C (f := 2) (ls' := [(2, (0, q3.1)), (0, (2, x0)), (1, (0, x1))]) dX12_cut_22 (by decide) rfl ?_
      refine g_iload_n C (f := 1) dX12_cut_23 2 rfl ?_
      refine g_aload_n C (f := 0) dX12_cut_24 1 rfl ?_
      refine g_getf C (k := 4) (kd := 0) okX12 (by decide) kf_RX12_214 dX12_cut_25 (rg_ hC T0.1) T0.2.1 rfl ?_
      refine g_icmp_lt C 43 dX12_cut_28 rfl (fun c4 => ?_) (fun c4 => ?_)
      · replace h := if_t h c4
        refine g_iload_n C (f := 2) dX12_cut_43 0 rfl ?_
        refine g_bipush C (n := 9) dX12_cut_44 (by decide) ?_
        refine g_icmp_eq C 67 dX12_cut_46 rfl (fun c5 => ?_) (fun c5 => ?_)
        · replace h := if_t h c5
          obtain ⟨y6, ey6, h⟩ := lt_e h
          refine g_iincx C (ls' := [(1, (0, y6)), (2, (0, q3.1)), (0, (2, x0))]) ey6 dX12_cut_67 2 rfl (by decide) (by decide) rfl ?_
          refine g_goto C 291 dX12_cut_70 rfl ?_
          refine g_goto C 7 dX12_cut_291 rfl ?_
          refine g_sub [2, 0] rfl rfl ?_
          exact H_7 _ _ _ T0 h
        · replace h := if_f h c5
          refine g_iload_n C (f := 2) dX12_cut_49 0 rfl ?_
          refine g_bipush C (n := 10) dX12_cut_50 (by decide) ?_
          refine g_icmp_eq C 67 dX12_cut_52 rfl (fun c7 => ?_) (fun c7 => ?_)
          · replace h := if_t h c7
            obtain ⟨y8, ey8, h⟩ := lt_e h
            refine g_iincx C (ls' := [(1, (0, y8)), (2, (0, q3.1)), (0, (2, x0))]) ey8 dX12_cut_67 2 rfl (by decide) (by decide) rfl ?_
            refine g_goto C 291 dX12_cut_70 rfl ?_
            refine g_goto C 7 dX12_cut_291 rfl ?_
            refine g_sub [2, 0] rfl rfl ?_
            exact H_7 _ _ _ T0 h
          · replace h := if_f h c7
            refine g_iload_n C (f := 2) dX12_cut_55 0 rfl ?_
            refine g_bipush C (n := 13) dX12_cut_56 (by decide) ?_
            refine g_icmp_eq C 67 dX12_cut_58 rfl (fun c9 => ?_) (fun c9 => ?_)
            · replace h := if_t h c9
              obtain ⟨y10, ey10, h⟩ := lt_e h
              refine g_iincx C (ls' := [(1, (0, y10)), (2, (0, q3.1)), (0, (2, x0))]) ey10 dX12_cut_67 2 rfl (by decide) (by decide) rfl ?_
              refine g_goto C 291 dX12_cut_70 rfl ?_
              refine g_goto C 7 dX12_cut_291 rfl ?_
              refine g_sub [2, 0] rfl rfl ?_
              exact H_7 _ _ _ T0 h
            · replace h := if_f h c9
              refine g_iload_n C (f := 2) dX12_cut_61 0 rfl ?_
              refine g_bipush C (n := 32) dX12_cut_62 (by decide) ?_
              refine g_icmp_ne C 73 dX12_cut_64 rfl (fun c11 => ?_) (fun c11 => ?_)
              · replace h := if_f h c11
                refine g_iload_n C (f := 2) dX12_cut_73 0 rfl ?_
                obtain ⟨q12, eq12, h⟩ := bd_e h
                refine g_cS C [(0, q3.1)] (cX12_isLetter_ok l hC eq12) km_RX12_234 cs_X12_isLetter rfl (by decide) rfl rfl (Nat.le_of_ble_eq_true rfl) dX12_cut_74 ?_
                refine g_if_eq C 196 dX12_cut_77 rfl (fun c13 => ?_) (fun c13 => ?_)
                · replace h := if_t h c13
                  refine g_iload_n C (f := 2) dX12_cut_196 0 rfl ?_
                  obtain ⟨q14, eq14, h⟩ := bd_e h
                  refine g_cS C [(0, q3.1)] (cX12_isDigit_ok l hC eq14) km_RX12_238 cs_X12_isDigit rfl (by decide) rfl rfl (Nat.le_of_ble_eq_true rfl) dX12_cut_197 ?_
                  refine g_if_eq C 275 dX12_cut_200 rfl (fun c15 => ?_) (fun c15 => ?_)
                  · replace h := if_t h c15
                    refine g_iload_n C (f := 1) dX12_cut_275 2 rfl ?_
                    refine g_aload_n C (f := 0) dX12_cut_276 1 rfl ?_
                    refine g_iload_n C (f := 1) dX12_cut_277 2 rfl ?_
                    refine g_iload_n C (f := 2) dX12_cut_278 0 rfl ?_
                    refine g_aload_n C (f := 0) dX12_cut_279 1 rfl ?_
                    refine g_iload_n C (f := 1) dX12_cut_280 2 rfl ?_
                    refine g_iconst C (n := 1) dX12_cut_281 (by decide) ?_
                    refine g_iadd C dX12_cut_282 ?_
                    obtain ⟨q16, eq16, h⟩ := bd_e h
                    refine g_cV C [(0, wr_ (x1 + 1))] (cX12_byteAt_ok l hC T0 eq16) okX12 T0.2.1 (rg_ hC T0.1) km_RX12_226 cv_X12_byteAt rfl (by decide) rfl rfl (Nat.le_of_ble_eq_true rfl) dX12_cut_283 ?_
                    obtain ⟨q17, eq17, h⟩ := bd_e h
                    refine g_cV C [(0, x1), (0, q3.1), (0, q16.1)] (cX12_sign_ok l hC T0 eq17) okX12 T0.2.1 (rg_ hC T0.1) km_RX12_241 cv_X12_sign rfl (by decide) rfl rfl (Nat.le_of_ble_eq_true rfl) dX12_cut_286 ?_
                    refine g_iadd C dX12_cut_289 ?_
                    obtain ⟨y18, ey18, h⟩ := lt_e h
                    refine g_set C ey18 ?_
                    refine g_istore_n C (f := 1) (ls' := [(1, (0, y18)), (2, (0, q3.1)), (0, (2, x0))]) dX12_cut_290 (by decide) rfl ?_
                    refine g_goto C 7 dX12_cut_291 rfl ?_
                    refine g_sub [2, 0] rfl rfl ?_
                    exact H_7 _ _ _ T0 h
                  · replace h := if_f h c15
                    refine g_iconst C (n := 0) dX12_cut_203 (by decide) ?_
                    refine g_istore_n C (f := 3) (ls' := [(3, (0, 0)), (2, (0, q3.1)), (0, (2, x0)), (1, (0, x1))]) dX12_cut_204 (by decide) rfl ?_
                    refine g_iconst C (n := 0) dX12_cut_205 (by decide) ?_
                    refine g_istore C (i := 4) (ls' := [(4, (0, 0)), (3, (0, 0)), (2, (0, q3.1)), (0, (2, x0)), (1, (0, x1))]) dX12_cut_206 (by decide) rfl ?_
                    refine g_sub [3, 4, 1, 0] rfl rfl ?_
                    exact tX12_cut_208 C hr hlk hC _ H_7 _ _ _ _ _ _ T0 h
                · replace h := if_f h c13
                  refine g_iconst C (n := 0) dX12_cut_80 (by decide) ?_
                  refine g_istore_n C (f := 3) (ls' := [(3, (0, 0)), (2, (0, q3.1)), (0, (2, x0)), (1, (0, x1))]) dX12_cut_81 (by decide) rfl ?_
                  refine g_lconst C (z := 0) dX12_cut_82 (by decide) ?_
                  refine g_lstore C (i := 4) (ls' := [(4, (1, 0)), (3, (0, 0)), (2, (0, q3.1)), (0, (2, x0)), (1, (0, x1))]) dX12_cut_83 (by decide) rfl ?_
                  refine g_sub [3, 4, 1, 0] rfl rfl ?_
                  exact tX12_cut_85 C hr hlk hC _ H_7 _ _ _ _ _ _ T0 h
              · replace h := if_t h c11
                obtain ⟨y49, ey49, h⟩ := lt_e h
                refine g_iincx C (ls' := [(1, (0, y49)), (2, (0, q3.1)), (0, (2, x0))]) ey49 dX12_cut_67 2 rfl (by decide) (by decide) rfl ?_
                refine g_goto C 291 dX12_cut_70 rfl ?_
                refine g_goto C 7 dX12_cut_291 rfl ?_
                refine g_sub [2, 0] rfl rfl ?_
                exact H_7 _ _ _ T0 h
      · replace h := if_f h c4
        refine g_aload_n C (f := 0) dX12_cut_31 1 rfl ?_
        refine g_iconst C (n := 0) dX12_cut_32 (by decide) ?_
        refine g_aload_n C (f := 0) dX12_cut_33 1 rfl ?_
        refine g_getf C (k := 4) (kd := 0) okX12 (by decide) kf_RX12_214 dX12_cut_34 (rg_ hC T0.1) T0.2.1 rfl ?_
        refine g_iconst C (n := 0) dX12_cut_37 (by decide) ?_
        refine g_lconst C (z := 0) dX12_cut_38 (by decide) ?_
        obtain ⟨q50, eq50, h⟩ := bd_e h
        refine g_cV C [(0, 0), (0, q3.2 x0 4), (0, 0), (1, 0)] (cX12_token_ok l hC T0 eq50) okX12 T0.2.1 (rg_ hC T0.1) km_RX12_230 cv_X12_token rfl (by decide) rfl rfl (Nat.le_of_ble_eq_true rfl) dX12_cut_39 ?_
        cases h
        exact g_vret C dX12_cut_42 hr hlk
end
theorem cX12_cut_ok (l : Launch) {E : En_} {sz : Int} (hC : Cl_ E.2.2.2.2.2 sz) {x0 : Int} {v : V_} {out : Int × V_} (T0 : (E.2.2.2.2.2 x0 ∧ ty_ x0 = 12 ∧ ln_ x0 = 0)) (h : fX12_cut x0 v = some out) : Met l yX12_cut [.code yX12_cut cX12_cut 8 (none : Option FieldType)] (rm_ 2 49) (Pc_ E sz v [(2, x0)]) (Qc_ E sz 9 out.1 out.2) 0 0 (fun q => E.1 < q) := by
  refine met_G0 RX12 (by decide +kernel) rfl (Nat.le_of_ble_eq_true rfl) ?_
  intro p e s m args below meth c C hr hlk
  rw [fX12_cut] at h
  refine g_aload_n C (f := 0) dX12_cut_0 0 rfl ?_
  refine g_iconst C (n := 0) dX12_cut_1 (by decide) ?_
  obtain ⟨v1, ev1, h⟩ := lt_e h
  refine g_putf C (k := 10) (kd := 0) okX12 (by decide) kf_RX12_223 dX12_cut_2 (rg_ hC T0.1) T0.2.1 rfl rfl nvI (Or.inl rfl) v1 ev1 ?_
  refine g_iconst C (n := 0) dX12_cut_5 (by decide) ?_
  refine g_istore_n C (f := 1) (ls' := [(1, (0, 0)), (0, (2, x0))]) dX12_cut_6 (by decide) rfl ?_
  refine g_sub [1, 0] rfl rfl ?_
  exact tX12_cut_7 C hr hlk hC _ _ _ _ T0 h
theorem dX12_fast_0 : decode cX12_fast 0 = .ok (.iload_n 1, 1) := by decide +kernel
theorem dX12_fast_1 : decode cX12_fast 1 = .ok (.iconst 0, 1) := by decide +kernel
theorem dX12_fast_2 : decode cX12_fast 2 = .ok (.iconst 4, 1) := by decide +kernel
theorem dX12_fast_3 : decode cX12_fast 3 = .ok (.invokestatic 334, 3) := by decide +kernel
theorem dX12_fast_6 : decode cX12_fast 6 = .ok (.ifCond .ne 5, 3) := by decide +kernel
theorem dX12_fast_9 : decode cX12_fast 9 = .ok (.iconst (-1), 1) := by decide +kernel
theorem dX12_fast_10 : decode cX12_fast 10 = .ok (.ireturn, 1) := by decide +kernel
theorem dX12_fast_11 : decode cX12_fast 11 = .ok (.aload_n 0, 1) := by decide +kernel
theorem dX12_fast_12 : decode cX12_fast 12 = .ok (.invokevirtual 542, 3) := by decide +kernel
theorem dX12_fast_15 : decode cX12_fast 15 = .ok (.aload_n 0, 1) := by decide +kernel
theorem dX12_fast_16 : decode cX12_fast 16 = .ok (.invokevirtual 588, 3) := by decide +kernel
theorem dX12_fast_19 : decode cX12_fast 19 = .ok (.istore_n 2, 1) := by decide +kernel
theorem dX12_fast_20 : decode cX12_fast 20 = .ok (.iload_n 1, 1) := by decide +kernel
theorem dX12_fast_21 : decode cX12_fast 21 = .ok (.tableswitch 48 0 3 #[31, 33, 38, 43], 31) := by decide +kernel
theorem dX12_fast_52 : decode cX12_fast 52 = .ok (.iload_n 2, 1) := by decide +kernel
theorem dX12_fast_53 : decode cX12_fast 53 = .ok (.ireturn, 1) := by decide +kernel
theorem dX12_fast_54 : decode cX12_fast 54 = .ok (.aload_n 0, 1) := by decide +kernel
theorem dX12_fast_55 : decode cX12_fast 55 = .ok (.getfield 353, 3) := by decide +kernel
theorem dX12_fast_58 : decode cX12_fast 58 = .ok (.ireturn, 1) := by decide +kernel
theorem dX12_fast_59 : decode cX12_fast 59 = .ok (.aload_n 0, 1) := by decide +kernel
theorem dX12_fast_60 : decode cX12_fast 60 = .ok (.getfield 356, 3) := by decide +kernel
theorem dX12_fast_63 : decode cX12_fast 63 = .ok (.ireturn, 1) := by decide +kernel
theorem dX12_fast_64 : decode cX12_fast 64 = .ok (.aload_n 0, 1) := by decide +kernel
theorem dX12_fast_65 : decode cX12_fast 65 = .ok (.getfield 518, 3) := by decide +kernel
theorem dX12_fast_68 : decode cX12_fast 68 = .ok (.ireturn, 1) := by decide +kernel
theorem dX12_fast_69 : decode cX12_fast 69 = .ok (.aload_n 0, 1) := by decide +kernel
theorem dX12_fast_70 : decode cX12_fast 70 = .ok (.getfield 530, 3) := by decide +kernel
theorem dX12_fast_73 : decode cX12_fast 73 = .ok (.ireturn, 1) := by decide +kernel
def fX12_fast (x0 x1 : Int) (v : V_) : Option (Int × V_) :=
  bd_ (fX12_in x1 0 4 v) fun q1 =>
  if q1.1 = 0 then (
    some ((-1), q1.2))
  else (
    bd_ (fX12_plansAll x0 q1.2) fun q3 =>
    bd_ (fX12_runsFast x0 q3.2) fun q4 =>
    if x1 = 0 then (
      some (q4.1, q4.2))
    else (
    if x1 = 1 then (
      some (q4.2 x0 45, q4.2))
    else (
    if x1 = 2 then (
      some (q4.2 x0 46, q4.2))
    else (
    if x1 = 3 then (
      some (q4.2 x0 75, q4.2))
    else (
    some (q4.2 x0 76, q4.2))))))
theorem cX12_fast_ok (l : Launch) {E : En_} {sz : Int} (hC : Cl_ E.2.2.2.2.2 sz) {x0 x1 : Int} {v : V_} {out : Int × V_} (T0 : (E.2.2.2.2.2 x0 ∧ ty_ x0 = 12 ∧ ln_ x0 = 0)) (h : fX12_fast x0 x1 v = some out) : Met l yX12_fast [.code yX12_fast cX12_fast 3 (some FieldType.int)] (rm_ 6 143) (Pc_ E sz v [(2, x0), (0, x1)]) (Qc_ E sz 0 out.1 out.2) 0 0 (fun q => E.1 < q) := by
  refine met_G0 RX12 (by decide +kernel) rfl (Nat.le_of_ble_eq_true rfl) ?_
  intro p e s m args below meth c C hr hlk
  rw [fX12_fast] at h
  refine g_iload_n C (f := 1) dX12_fast_0 1 rfl ?_
  refine g_iconst C (n := 0) dX12_fast_1 (by decide) ?_
  refine g_iconst C (n := 4) dX12_fast_2 (by decide) ?_
  obtain ⟨q1, eq1, h⟩ := bd_e h
  refine g_cS C [(0, x1), (0, 0), (0, 4)] (cX12_in_ok l hC eq1) km_RX12_334 cs_X12_in rfl (by decide) rfl rfl (Nat.le_of_ble_eq_true rfl) dX12_fast_3 ?_
  refine g_if_ne C 11 dX12_fast_6 rfl (fun c2 => ?_) (fun c2 => ?_)
  · replace h := if_f h c2
    refine g_aload_n C (f := 0) dX12_fast_11 0 rfl ?_
    obtain ⟨q3, eq3, h⟩ := bd_e h
    refine g_cV C [] (cX12_plansAll_ok l hC T0 eq3) okX12 T0.2.1 (rg_ hC T0.1) km_RX12_542 cv_X12_plansAll rfl (by decide) rfl rfl (Nat.le_of_ble_eq_true rfl) dX12_fast_12 ?_
    refine g_aload_n C (f := 0) dX12_fast_15 0 rfl ?_
    obtain ⟨q4, eq4, h⟩ := bd_e h
    refine g_cV C [] (cX12_runsFast_ok l hC T0 eq4) okX12 T0.2.1 (rg_ hC T0.1) km_RX12_588 cv_X12_runsFast rfl (by decide) rfl rfl (Nat.le_of_ble_eq_true rfl) dX12_fast_16 ?_
    refine g_istore_n C (f := 2) (ls' := [(2, (0, q4.1)), (0, (2, x0)), (1, (0, x1))]) dX12_fast_19 (by decide) rfl ?_
    refine g_iload_n C (f := 1) dX12_fast_20 2 rfl ?_
    by_cases c5 : x1 = 0
    · replace h := if_t h c5
      refine g_tin C 52 dX12_fast_21 0 c5 (by decide) (by decide) rfl rfl ?_
      refine g_iload_n C (f := 2) dX12_fast_52 0 rfl ?_
      cases h
      exact g_iret C dX12_fast_53 hr hlk
    replace h := if_f h c5
    by_cases c6 : x1 = 1
    · replace h := if_t h c6
      refine g_tin C 54 dX12_fast_21 1 c6 (by decide) (by decide) rfl rfl ?_
      refine g_aload_n C (f := 0) dX12_fast_54 1 rfl ?_
      refine g_getf C (k := 45) (kd := 0) okX12 (by decide) kf_RX12_353 dX12_fast_55 (rg_ hC T0.1) T0.2.1 rfl ?_
      cases h
      exact g_iret C dX12_fast_58 hr hlk
    replace h := if_f h c6
    by_cases c7 : x1 = 2
    · replace h := if_t h c7
      refine g_tin C 59 dX12_fast_21 2 c7 (by decide) (by decide) rfl rfl ?_
      refine g_aload_n C (f := 0) dX12_fast_59 1 rfl ?_
      refine g_getf C (k := 46) (kd := 0) okX12 (by decide) kf_RX12_356 dX12_fast_60 (rg_ hC T0.1) T0.2.1 rfl ?_
      cases h
      exact g_iret C dX12_fast_63 hr hlk
    replace h := if_f h c7
    by_cases c8 : x1 = 3
    · replace h := if_t h c8
      refine g_tin C 64 dX12_fast_21 3 c8 (by decide) (by decide) rfl rfl ?_
      refine g_aload_n C (f := 0) dX12_fast_64 1 rfl ?_
      refine g_getf C (k := 75) (kd := 0) okX12 (by decide) kf_RX12_518 dX12_fast_65 (rg_ hC T0.1) T0.2.1 rfl ?_
      cases h
      exact g_iret C dX12_fast_68 hr hlk
    replace h := if_f h c8
    refine g_tdef C (x := x1) 69 dX12_fast_21 (by intro a ha h1 h2; exact absurd h2 (by omega)) rfl ?_
    refine g_aload_n C (f := 0) dX12_fast_69 1 rfl ?_
    refine g_getf C (k := 76) (kd := 0) okX12 (by decide) kf_RX12_530 dX12_fast_70 (rg_ hC T0.1) T0.2.1 rfl ?_
    cases h
    exact g_iret C dX12_fast_73 hr hlk
  · replace h := if_t h c2
    refine g_iconst C (n := (-1)) dX12_fast_9 (by decide) ?_
    cases h
    exact g_iret C dX12_fast_10 hr hlk
theorem dX12_lays_0 : decode cX12_lays 0 = .ok (.bipush 24, 2) := by decide +kernel
theorem dX12_lays_2 : decode cX12_lays 2 = .ok (.istore_n 2, 1) := by decide +kernel
theorem dX12_lays_3 : decode cX12_lays 3 = .ok (.iload_n 2, 1) := by decide +kernel
theorem dX12_lays_4 : decode cX12_lays 4 = .ok (.ifCond .lt 32, 3) := by decide +kernel
theorem dX12_lays_7 : decode cX12_lays 7 = .ok (.aload_n 0, 1) := by decide +kernel
theorem dX12_lays_8 : decode cX12_lays 8 = .ok (.getfield 13, 3) := by decide +kernel
theorem dX12_lays_11 : decode cX12_lays 11 = .ok (.aload_n 0, 1) := by decide +kernel
theorem dX12_lays_12 : decode cX12_lays 12 = .ok (.getfield 208, 3) := by decide +kernel
theorem dX12_lays_15 : decode cX12_lays 15 = .ok (.iload_n 1, 1) := by decide +kernel
theorem dX12_lays_16 : decode cX12_lays 16 = .ok (.iload_n 2, 1) := by decide +kernel
theorem dX12_lays_17 : decode cX12_lays 17 = .ok (.ishr, 1) := by decide +kernel
theorem dX12_lays_18 : decode cX12_lays 18 = .ok (.i2b, 1) := by decide +kernel
theorem dX12_lays_19 : decode cX12_lays 19 = .ok (.bastore, 1) := by decide +kernel
theorem dX12_lays_20 : decode cX12_lays 20 = .ok (.aload_n 0, 1) := by decide +kernel
theorem dX12_lays_21 : decode cX12_lays 21 = .ok (.dup, 1) := by decide +kernel
theorem dX12_lays_22 : decode cX12_lays 22 = .ok (.getfield 208, 3) := by decide +kernel
theorem dX12_lays_25 : decode cX12_lays 25 = .ok (.iconst 1, 1) := by decide +kernel
theorem dX12_lays_26 : decode cX12_lays 26 = .ok (.iadd, 1) := by decide +kernel
theorem dX12_lays_27 : decode cX12_lays 27 = .ok (.putfield 208, 3) := by decide +kernel
theorem dX12_lays_30 : decode cX12_lays 30 = .ok (.iinc 2 (-8), 3) := by decide +kernel
theorem dX12_lays_33 : decode cX12_lays 33 = .ok (.goto (-30), 3) := by decide +kernel
theorem dX12_lays_36 : decode cX12_lays 36 = .ok (.return_, 1) := by decide +kernel
def fX12_lays_3 : Nat → Int → Int → Int → V_ → Option (Int × V_)
  | 0, _, _, _, _ => none
  | n + 1, x0, x1, x2, v =>
    if x2 < 0 then (
      some (0, v))
    else (
      ck_ (0 ≤ v x0 2 ∧ v x0 2 < 2000) (
      lt_ (up_ v (x0 + 1) (v x0 2) (w8_ (w8_ (sR_ x1 x2)))) fun v4 =>
      lt_ (up_ v4 x0 2 (wr_ ((v4 x0 2) + 1))) fun v5 =>
      lt_ (wr_ (x2 + (-8))) fun y6 =>
      (fX12_lays_3 n) x0 x1 y6 v5))
def fX12_lays (x0 x1 : Int) (v : V_) : Option (Int × V_) :=
  fX12_lays_3 fu_ x0 x1 24 v
section
variable {E : En_} {p : Program} {l : Launch} {e : Env} {s : State} {m : MethodId} {args : Array Value} {below : List Frame} {meth : Method} {c : Code} {sz : Int}
theorem tX12_lays_3 (C : MC_ E p s m c cX12_lays 3 RX12) (hr : meth.sig.returnType = (none : Option FieldType)) (hlk : meth.locks = false) (hC : Cl_ E.2.2.2.2.2 sz) {out : Int × V_} : ∀ (n : Nat) (x0 x1 x2 : Int) (v : V_), (E.2.2.2.2.2 x0 ∧ ty_ x0 = 12 ∧ ln_ x0 = 0) → fX12_lays_3 n x0 x1 x2 v = some out → G_ E p l e (rm_ 0 0) s m args below meth c 3 sz (Q_ E below args s sz sz 9 out.1 out.2) 3 [(0, (2, x0)), (1, (0, x1)), (2, (0, x2))] [] v sz := by
  intro n
  induction n with
  | zero =>
    intro x0 x1 x2 v T0 h
    cases h
  | succ n H_3 =>
    intro x0 x1 x2 v T0 h
    rw [fX12_lays_3] at h
    refine g_iload_n C (f := 2) dX12_lays_3 2 rfl ?_
    refine g_if_lt C 36 dX12_lays_4 rfl (fun c1 => ?_) (fun c1 => ?_)
    · replace h := if_t h c1
      cases h
      exact g_vret C dX12_lays_36 hr hlk
    · replace h := if_f h c1
      refine g_aload_n C (f := 0) dX12_lays_7 0 rfl ?_
      have F2 := fX12_1 hC T0.1 T0.2.1
      refine g_getR C (k := 1) (o := 1) okX12 (by decide) kf_RX12_13 dX12_lays_8 hC T0.1 T0.2.1 rfl rfl ?_
      refine g_aload_n C (f := 0) dX12_lays_11 0 rfl ?_
      refine g_getf C (k := 2) (kd := 0) okX12 (by decide) kf_RX12_208 dX12_lays_12 (rg_ hC T0.1) T0.2.1 rfl ?_
      refine g_iload_n C (f := 1) dX12_lays_15 1 rfl ?_
      refine g_iload_n C (f := 2) dX12_lays_16 2 rfl ?_
      refine g_ishr C dX12_lays_17 ?_
      refine g_i2b C dX12_lays_18 ?_
      obtain ⟨c3, h⟩ := ck_e h
      obtain ⟨v4, ev4, h⟩ := lt_e h
      refine g_bast C 2000 dX12_lays_19 (rg_ hC F2.1) F2.2.1 F2.2.2 c3 v4 ev4 ?_
      refine g_aload_n C (f := 0) dX12_lays_20 0 rfl ?_
      refine g_dup C (Nat.ne_of_beq_eq_false rfl) dX12_lays_21 ?_
      refine g_getf C (k := 2) (kd := 0) okX12 (by decide) kf_RX12_208 dX12_lays_22 (rg_ hC T0.1) T0.2.1 rfl ?_
      refine g_iconst C (n := 1) dX12_lays_25 (by decide) ?_
      refine g_iadd C dX12_lays_26 ?_
      obtain ⟨v5, ev5, h⟩ := lt_e h
      refine g_putf C (k := 2) (kd := 0) okX12 (by decide) kf_RX12_208 dX12_lays_27 (rg_ hC T0.1) T0.2.1 rfl rfl nvI (Or.inl rfl) v5 ev5 ?_
      obtain ⟨y6, ey6, h⟩ := lt_e h
      refine g_iincx C (ls' := [(2, (0, y6)), (0, (2, x0)), (1, (0, x1))]) ey6 dX12_lays_30 2 rfl (by decide) (by decide) rfl ?_
      refine g_goto C 3 dX12_lays_33 rfl ?_
      refine g_sub [1, 2, 0] rfl rfl ?_
      exact H_3 _ _ _ _ T0 h
end
theorem cX12_lays_ok (l : Launch) {E : En_} {sz : Int} (hC : Cl_ E.2.2.2.2.2 sz) {x0 x1 : Int} {v : V_} {out : Int × V_} (T0 : (E.2.2.2.2.2 x0 ∧ ty_ x0 = 12 ∧ ln_ x0 = 0)) (h : fX12_lays x0 x1 v = some out) : Met l yX12_lays [.code yX12_lays cX12_lays 3 (none : Option FieldType)] (rm_ 0 0) (Pc_ E sz v [(2, x0), (0, x1)]) (Qc_ E sz 9 out.1 out.2) 0 0 (fun q => E.1 < q) := by
  refine met_G0 RX12 (by decide +kernel) rfl (Nat.le_of_ble_eq_true rfl) ?_
  intro p e s m args below meth c C hr hlk
  rw [fX12_lays] at h
  refine g_bipush C (n := 24) dX12_lays_0 (by decide) ?_
  refine g_istore_n C (f := 2) (ls' := [(2, (0, 24)), (0, (2, x0)), (1, (0, x1))]) dX12_lays_2 (by decide) rfl ?_
  refine g_sub [1, 2, 0] rfl rfl ?_
  exact tX12_lays_3 C hr hlk hC _ _ _ _ _ T0 h
theorem dX12_feed_0 : decode cX12_feed 0 = .ok (.aload_n 0, 1) := by decide +kernel
theorem dX12_feed_1 : decode cX12_feed 1 = .ok (.getfield 208, 3) := by decide +kernel
theorem dX12_feed_4 : decode cX12_feed 4 = .ok (.bipush 20, 2) := by decide +kernel
theorem dX12_feed_6 : decode cX12_feed 6 = .ok (.iadd, 1) := by decide +kernel
theorem dX12_feed_7 : decode cX12_feed 7 = .ok (.sipush 2000, 3) := by decide +kernel
theorem dX12_feed_10 : decode cX12_feed 10 = .ok (.if_icmp .le 5, 3) := by decide +kernel
theorem dX12_feed_13 : decode cX12_feed 13 = .ok (.iconst (-1), 1) := by decide +kernel
theorem dX12_feed_14 : decode cX12_feed 14 = .ok (.ireturn, 1) := by decide +kernel
theorem dX12_feed_15 : decode cX12_feed 15 = .ok (.aload_n 0, 1) := by decide +kernel
theorem dX12_feed_16 : decode cX12_feed 16 = .ok (.iload_n 1, 1) := by decide +kernel
theorem dX12_feed_17 : decode cX12_feed 17 = .ok (.invokevirtual 211, 3) := by decide +kernel
theorem dX12_feed_20 : decode cX12_feed 20 = .ok (.aload_n 0, 1) := by decide +kernel
theorem dX12_feed_21 : decode cX12_feed 21 = .ok (.iload_n 2, 1) := by decide +kernel
theorem dX12_feed_22 : decode cX12_feed 22 = .ok (.invokevirtual 211, 3) := by decide +kernel
theorem dX12_feed_25 : decode cX12_feed 25 = .ok (.aload_n 0, 1) := by decide +kernel
theorem dX12_feed_26 : decode cX12_feed 26 = .ok (.iload_n 3, 1) := by decide +kernel
theorem dX12_feed_27 : decode cX12_feed 27 = .ok (.invokevirtual 211, 3) := by decide +kernel
theorem dX12_feed_30 : decode cX12_feed 30 = .ok (.aload_n 0, 1) := by decide +kernel
theorem dX12_feed_31 : decode cX12_feed 31 = .ok (.iload 4, 2) := by decide +kernel
theorem dX12_feed_33 : decode cX12_feed 33 = .ok (.invokevirtual 211, 3) := by decide +kernel
theorem dX12_feed_36 : decode cX12_feed 36 = .ok (.aload_n 0, 1) := by decide +kernel
theorem dX12_feed_37 : decode cX12_feed 37 = .ok (.iload 5, 2) := by decide +kernel
theorem dX12_feed_39 : decode cX12_feed 39 = .ok (.invokevirtual 211, 3) := by decide +kernel
theorem dX12_feed_42 : decode cX12_feed 42 = .ok (.aload_n 0, 1) := by decide +kernel
theorem dX12_feed_43 : decode cX12_feed 43 = .ok (.getfield 208, 3) := by decide +kernel
theorem dX12_feed_46 : decode cX12_feed 46 = .ok (.ireturn, 1) := by decide +kernel
def fX12_feed (x0 x1 x2 x3 x4 x5 : Int) (v : V_) : Option (Int × V_) :=
  if (wr_ ((v x0 2) + 20)) ≤ 2000 then (
    bd_ (fX12_lays x0 x1 v) fun q2 =>
    bd_ (fX12_lays x0 x2 q2.2) fun q3 =>
    bd_ (fX12_lays x0 x3 q3.2) fun q4 =>
    bd_ (fX12_lays x0 x4 q4.2) fun q5 =>
    bd_ (fX12_lays x0 x5 q5.2) fun q6 =>
    some (q6.2 x0 2, q6.2))
  else (
    some ((-1), v))
theorem cX12_feed_ok (l : Launch) {E : En_} {sz : Int} (hC : Cl_ E.2.2.2.2.2 sz) {x0 x1 x2 x3 x4 x5 : Int} {v : V_} {out : Int × V_} (T0 : (E.2.2.2.2.2 x0 ∧ ty_ x0 = 12 ∧ ln_ x0 = 0)) (h : fX12_feed x0 x1 x2 x3 x4 x5 v = some out) : Met l yX12_feed [.code yX12_feed cX12_feed 6 (some FieldType.int)] (rm_ 1 22) (Pc_ E sz v [(2, x0), (0, x1), (0, x2), (0, x3), (0, x4), (0, x5)]) (Qc_ E sz 0 out.1 out.2) 0 0 (fun q => E.1 < q) := by
  refine met_G0 RX12 (by decide +kernel) rfl (Nat.le_of_ble_eq_true rfl) ?_
  intro p e s m args below meth c C hr hlk
  rw [fX12_feed] at h
  refine g_aload_n C (f := 0) dX12_feed_0 0 rfl ?_
  refine g_getf C (k := 2) (kd := 0) okX12 (by decide) kf_RX12_208 dX12_feed_1 (rg_ hC T0.1) T0.2.1 rfl ?_
  refine g_bipush C (n := 20) dX12_feed_4 (by decide) ?_
  refine g_iadd C dX12_feed_6 ?_
  refine g_sipush C (n := 2000) dX12_feed_7 (by decide) ?_
  refine g_icmp_le C 15 dX12_feed_10 rfl (fun c1 => ?_) (fun c1 => ?_)
  · replace h := if_t h c1
    refine g_aload_n C (f := 0) dX12_feed_15 0 rfl ?_
    refine g_iload_n C (f := 1) dX12_feed_16 1 rfl ?_
    obtain ⟨q2, eq2, h⟩ := bd_e h
    refine g_cV C [(0, x1)] (cX12_lays_ok l hC T0 eq2) okX12 T0.2.1 (rg_ hC T0.1) km_RX12_211 cv_X12_lays rfl (by decide) rfl rfl (Nat.le_of_ble_eq_true rfl) dX12_feed_17 ?_
    refine g_aload_n C (f := 0) dX12_feed_20 0 rfl ?_
    refine g_iload_n C (f := 2) dX12_feed_21 2 rfl ?_
    obtain ⟨q3, eq3, h⟩ := bd_e h
    refine g_cV C [(0, x2)] (cX12_lays_ok l hC T0 eq3) okX12 T0.2.1 (rg_ hC T0.1) km_RX12_211 cv_X12_lays rfl (by decide) rfl rfl (Nat.le_of_ble_eq_true rfl) dX12_feed_22 ?_
    refine g_aload_n C (f := 0) dX12_feed_25 0 rfl ?_
    refine g_iload_n C (f := 3) dX12_feed_26 3 rfl ?_
    obtain ⟨q4, eq4, h⟩ := bd_e h
    refine g_cV C [(0, x3)] (cX12_lays_ok l hC T0 eq4) okX12 T0.2.1 (rg_ hC T0.1) km_RX12_211 cv_X12_lays rfl (by decide) rfl rfl (Nat.le_of_ble_eq_true rfl) dX12_feed_27 ?_
    refine g_aload_n C (f := 0) dX12_feed_30 0 rfl ?_
    refine g_iload C (i := 4) dX12_feed_31 4 rfl ?_
    obtain ⟨q5, eq5, h⟩ := bd_e h
    refine g_cV C [(0, x4)] (cX12_lays_ok l hC T0 eq5) okX12 T0.2.1 (rg_ hC T0.1) km_RX12_211 cv_X12_lays rfl (by decide) rfl rfl (Nat.le_of_ble_eq_true rfl) dX12_feed_33 ?_
    refine g_aload_n C (f := 0) dX12_feed_36 0 rfl ?_
    refine g_iload C (i := 5) dX12_feed_37 5 rfl ?_
    obtain ⟨q6, eq6, h⟩ := bd_e h
    refine g_cV C [(0, x5)] (cX12_lays_ok l hC T0 eq6) okX12 T0.2.1 (rg_ hC T0.1) km_RX12_211 cv_X12_lays rfl (by decide) rfl rfl (Nat.le_of_ble_eq_true rfl) dX12_feed_39 ?_
    refine g_aload_n C (f := 0) dX12_feed_42 0 rfl ?_
    refine g_getf C (k := 2) (kd := 0) okX12 (by decide) kf_RX12_208 dX12_feed_43 (rg_ hC T0.1) T0.2.1 rfl ?_
    cases h
    exact g_iret C dX12_feed_46 hr hlk
  · replace h := if_f h c1
    refine g_iconst C (n := (-1)) dX12_feed_13 (by decide) ?_
    cases h
    exact g_iret C dX12_feed_14 hr hlk
