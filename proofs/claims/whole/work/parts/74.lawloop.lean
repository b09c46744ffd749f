def fL_176 (xs : Int → Int) (L : Int) (k : Int → V_ → Option (Int × V_)) (i : Int) (v : V_) : Option (Int × V_) :=
  ck_ (0 ≤ wr_ (i + 1) ∧ wr_ (i + 1) < L) (
  ck_ (0 ≤ wr_ (i + 2) ∧ wr_ (i + 2) < L) (
  ck_ (0 ≤ wr_ (i + 3) ∧ wr_ (i + 3) < L) (
  ck_ (0 ≤ wr_ (i + 4) ∧ wr_ (i + 4) < L) (
  ck_ (0 ≤ wr_ (i + 5) ∧ wr_ (i + 5) < L) (
  bd_ (fX11_feed 1 (xs (wr_ (i + 1))) (xs (wr_ (i + 2))) (xs (wr_ (i + 3))) (xs (wr_ (i + 4))) (xs (wr_ (i + 5))) v) fun q6 =>
  ck_ (0 ≤ wr_ (i + 1) ∧ wr_ (i + 1) < L) (
  ck_ (0 ≤ wr_ (i + 2) ∧ wr_ (i + 2) < L) (
  ck_ (0 ≤ wr_ (i + 3) ∧ wr_ (i + 3) < L) (
  ck_ (0 ≤ wr_ (i + 4) ∧ wr_ (i + 4) < L) (
  ck_ (0 ≤ wr_ (i + 5) ∧ wr_ (i + 5) < L) (
  bd_ (fX12_feed 814 (xs (wr_ (i + 1))) (xs (wr_ (i + 2))) (xs (wr_ (i + 3))) (xs (wr_ (i + 4))) (xs (wr_ (i + 5))) q6.2) fun q12 =>
  if q6.1 = q12.1 then (
    lt_ (wr_ (i + 6)) fun y14 =>
    k y14 q12.2)
  else (
    some (0, q12.2))))))))))))
theorem tL_176 {E : En_} {p : Program} {l : Launch} {e : Env} {s : State} {m : MethodId} {below : List Frame} {meth : Method} {c : Code} {b L : Nat} {xs : Nat → Int32} (C : MC_ E p s m c code 4 "TraceDeskLaw") (hr : meth.sig.returnType = ret) (hlk : meth.locks = false) (hB : E.1 + 1 = s.heap.size) (hX : SX_ E b L xs s) (hC : Cl_ E.2.2.2.2.2 873) (hG : Pg_ E.2.2.2.2.2) (T1 : E.2.2.2.2.2 1 ∧ ty_ 1 = 11 ∧ ln_ 1 = 0) (T2 : E.2.2.2.2.2 814 ∧ ty_ 814 = 12 ∧ ln_ 814 = 0) {out : Int × V_} (ho : out.1 = 1) (k : Int → V_ → Option (Int × V_)) (H : ∀ (i : Int) (v : V_), k i v = some out → G_ E p l e room_1 s m #[.ref b] below meth c 4 1 (lw_Z below #[.ref b] s) 18 [(0, (3, (b : Int))), (1, (2, 1)), (2, (2, 814)), (3, (0, i))] [] v 873) (i : Int) (v : V_) (h : fL_176 (fun j => (xs j.toNat).toInt) (L : Int) k i v = some out) : G_ E p l e room_1 s m #[.ref b] below meth c 4 1 (lw_Z below #[.ref b] s) 176 [(0, (3, (b : Int))), (1, (2, 1)), (2, (2, 814)), (3, (0, i))] [] v 873 := by
  rw [fL_176] at h
  refine g_aload_n C (f := 1) dL_law_176 1 rfl ?_
  refine g_aload3 C (f := 0) dL_law_177 0 rfl ?_
  refine g_iload_n C (f := 3) dL_law_178 3 rfl ?_
  refine g_iconst C (n := 1) dL_law_179 (by decide) ?_
  refine g_iadd C dL_law_180 ?_
  obtain ⟨c1, h⟩ := ck_e h
  refine g_xld C hX c1 dL_law_181 ?_
  refine g_aload3 C (f := 0) dL_law_182 0 rfl ?_
  refine g_iload_n C (f := 3) dL_law_183 3 rfl ?_
  refine g_iconst C (n := 2) dL_law_184 (by decide) ?_
  refine g_iadd C dL_law_185 ?_
  obtain ⟨c2, h⟩ := ck_e h
  refine g_xld C hX c2 dL_law_186 ?_
  refine g_aload3 C (f := 0) dL_law_187 0 rfl ?_
  refine g_iload_n C (f := 3) dL_law_188 3 rfl ?_
  refine g_iconst C (n := 3) dL_law_189 (by decide) ?_
  refine g_iadd C dL_law_190 ?_
  obtain ⟨c3, h⟩ := ck_e h
  refine g_xld C hX c3 dL_law_191 ?_
  refine g_aload3 C (f := 0) dL_law_192 0 rfl ?_
  refine g_iload_n C (f := 3) dL_law_193 3 rfl ?_
  refine g_iconst C (n := 4) dL_law_194 (by decide) ?_
  refine g_iadd C dL_law_195 ?_
  obtain ⟨c4, h⟩ := ck_e h
  refine g_xld C hX c4 dL_law_196 ?_
  refine g_aload3 C (f := 0) dL_law_197 0 rfl ?_
  refine g_iload_n C (f := 3) dL_law_198 3 rfl ?_
  refine g_iconst C (n := 5) dL_law_199 (by decide) ?_
  refine g_iadd C dL_law_200 ?_
  obtain ⟨c5, h⟩ := ck_e h
  refine g_xld C hX c5 dL_law_201 ?_
  obtain ⟨q6, eq6, h⟩ := bd_e h
  refine g_cVk C [(0, (fun j => (xs j.toNat).toInt) (wr_ (i + 1))), (0, (fun j => (xs j.toNat).toInt) (wr_ (i + 2))), (0, (fun j => (xs j.toNat).toInt) (wr_ (i + 3))), (0, (fun j => (xs j.toNat).toInt) (wr_ (i + 4))), (0, (fun j => (xs j.toNat).toInt) (wr_ (i + 5)))] (cX11_feed_ok l hC hG T1 eq6) okX11 T1.2.1 (rg_ hC T1.1) km_L_13 cv_X11_feed rfl (by decide) rfl rfl (by decide) ⟨by decide, by decide⟩ (Nat.le_of_ble_eq_true rfl) dL_law_202 ?_
  refine g_aload_n C (f := 2) dL_law_205 2 rfl ?_
  refine g_aload3 C (f := 0) dL_law_206 0 rfl ?_
  refine g_iload_n C (f := 3) dL_law_207 3 rfl ?_
  refine g_iconst C (n := 1) dL_law_208 (by decide) ?_
  refine g_iadd C dL_law_209 ?_
  obtain ⟨c7, h⟩ := ck_e h
  refine g_xld C hX c7 dL_law_210 ?_
  refine g_aload3 C (f := 0) dL_law_211 0 rfl ?_
  refine g_iload_n C (f := 3) dL_law_212 3 rfl ?_
  refine g_iconst C (n := 2) dL_law_213 (by decide) ?_
  refine g_iadd C dL_law_214 ?_
  obtain ⟨c8, h⟩ := ck_e h
  refine g_xld C hX c8 dL_law_215 ?_
  refine g_aload3 C (f := 0) dL_law_216 0 rfl ?_
  refine g_iload_n C (f := 3) dL_law_217 3 rfl ?_
  refine g_iconst C (n := 3) dL_law_218 (by decide) ?_
  refine g_iadd C dL_law_219 ?_
  obtain ⟨c9, h⟩ := ck_e h
  refine g_xld C hX c9 dL_law_220 ?_
  refine g_aload3 C (f := 0) dL_law_221 0 rfl ?_
  refine g_iload_n C (f := 3) dL_law_222 3 rfl ?_
  refine g_iconst C (n := 4) dL_law_223 (by decide) ?_
  refine g_iadd C dL_law_224 ?_
  obtain ⟨c10, h⟩ := ck_e h
  refine g_xld C hX c10 dL_law_225 ?_
  refine g_aload3 C (f := 0) dL_law_226 0 rfl ?_
  refine g_iload_n C (f := 3) dL_law_227 3 rfl ?_
  refine g_iconst C (n := 5) dL_law_228 (by decide) ?_
  refine g_iadd C dL_law_229 ?_
  obtain ⟨c11, h⟩ := ck_e h
  refine g_xld C hX c11 dL_law_230 ?_
  obtain ⟨q12, eq12, h⟩ := bd_e h
  refine g_cVk C [(0, (fun j => (xs j.toNat).toInt) (wr_ (i + 1))), (0, (fun j => (xs j.toNat).toInt) (wr_ (i + 2))), (0, (fun j => (xs j.toNat).toInt) (wr_ (i + 3))), (0, (fun j => (xs j.toNat).toInt) (wr_ (i + 4))), (0, (fun j => (xs j.toNat).toInt) (wr_ (i + 5)))] (cX12_feed_ok l hC T2 eq12) okX12 T2.2.1 (rg_ hC T2.1) km_L_17 cv_X12_feed rfl (by decide) rfl rfl (by decide) ⟨by decide, by decide⟩ (Nat.le_of_ble_eq_true rfl) dL_law_231 ?_
  refine g_icmp_eq C 1068 dL_law_234 rfl (fun c13 => ?_) (fun c13 => ?_)
  · replace h := if_t h c13
    obtain ⟨y14, ey14, h⟩ := lt_e h
    refine g_iincx C (ls' := [(3, (0, y14)), (0, (3, (b : Int))), (1, (2, 1)), (2, (2, 814))]) ey14 dL_law_1068 3 rfl (by decide) (by decide) rfl ?_
    refine g_goto C 18 dL_law_1071 rfl ?_
    refine g_sub [1, 2, 3, 0] rfl rfl ?_
    exact H _ _ h
  · replace h := if_f h c13
    refine g_iconst C (n := 0) dL_law_237 (by decide) ?_
    cases h
    exact absurd ho (by show ¬ ((0 : Int) = 1); decide)
def fL_239 (xs : Int → Int) (L : Int) (k : Int → V_ → Option (Int × V_)) (i : Int) (v : V_) : Option (Int × V_) :=
  ck_ (0 ≤ wr_ (i + 1) ∧ wr_ (i + 1) < L) (
  bd_ (fX11_back 1 (xs (wr_ (i + 1))) v) fun q16 =>
  ck_ (0 ≤ wr_ (i + 1) ∧ wr_ (i + 1) < L) (
  bd_ (fX12_back 814 (xs (wr_ (i + 1))) q16.2) fun q18 =>
  if q16.1 = q18.1 then (
    lt_ (wr_ (i + 6)) fun y20 =>
    k y20 q18.2)
  else (
    some (0, q18.2))))
theorem tL_239 {E : En_} {p : Program} {l : Launch} {e : Env} {s : State} {m : MethodId} {below : List Frame} {meth : Method} {c : Code} {b L : Nat} {xs : Nat → Int32} (C : MC_ E p s m c code 4 "TraceDeskLaw") (hr : meth.sig.returnType = ret) (hlk : meth.locks = false) (hB : E.1 + 1 = s.heap.size) (hX : SX_ E b L xs s) (hC : Cl_ E.2.2.2.2.2 873) (hG : Pg_ E.2.2.2.2.2) (T1 : E.2.2.2.2.2 1 ∧ ty_ 1 = 11 ∧ ln_ 1 = 0) (T2 : E.2.2.2.2.2 814 ∧ ty_ 814 = 12 ∧ ln_ 814 = 0) {out : Int × V_} (ho : out.1 = 1) (k : Int → V_ → Option (Int × V_)) (H : ∀ (i : Int) (v : V_), k i v = some out → G_ E p l e room_1 s m #[.ref b] below meth c 4 1 (lw_Z below #[.ref b] s) 18 [(0, (3, (b : Int))), (1, (2, 1)), (2, (2, 814)), (3, (0, i))] [] v 873) (i : Int) (v : V_) (h : fL_239 (fun j => (xs j.toNat).toInt) (L : Int) k i v = some out) : G_ E p l e room_1 s m #[.ref b] below meth c 4 1 (lw_Z below #[.ref b] s) 239 [(0, (3, (b : Int))), (1, (2, 1)), (2, (2, 814)), (3, (0, i))] [] v 873 := by
  rw [fL_239] at h
  refine g_aload_n C (f := 1) dL_law_239 1 rfl ?_
  refine g_aload3 C (f := 0) dL_law_240 0 rfl ?_
  refine g_iload_n C (f := 3) dL_law_241 3 rfl ?_
  refine g_iconst C (n := 1) dL_law_242 (by decide) ?_
  refine g_iadd C dL_law_243 ?_
  obtain ⟨c15, h⟩ := ck_e h
  refine g_xld C hX c15 dL_law_244 ?_
  obtain ⟨q16, eq16, h⟩ := bd_e h
  refine g_cVk C [(0, (fun j => (xs j.toNat).toInt) (wr_ (i + 1)))] (cX11_back_ok l hC hG T1 eq16) okX11 T1.2.1 (rg_ hC T1.1) km_L_18 cv_X11_back rfl (by decide) rfl rfl (by decide) ⟨by decide, by decide⟩ (Nat.le_of_ble_eq_true rfl) dL_law_245 ?_
  refine g_aload_n C (f := 2) dL_law_248 2 rfl ?_
  refine g_aload3 C (f := 0) dL_law_249 0 rfl ?_
  refine g_iload_n C (f := 3) dL_law_250 3 rfl ?_
  refine g_iconst C (n := 1) dL_law_251 (by decide) ?_
  refine g_iadd C dL_law_252 ?_
  obtain ⟨c17, h⟩ := ck_e h
  refine g_xld C hX c17 dL_law_253 ?_
  obtain ⟨q18, eq18, h⟩ := bd_e h
  refine g_cVk C [(0, (fun j => (xs j.toNat).toInt) (wr_ (i + 1)))] (cX12_back_ok l hC T2 eq18) okX12 T2.2.1 (rg_ hC T2.1) km_L_22 cv_X12_back rfl (by decide) rfl rfl (by decide) ⟨by decide, by decide⟩ (Nat.le_of_ble_eq_true rfl) dL_law_254 ?_
  refine g_icmp_eq C 1068 dL_law_257 rfl (fun c19 => ?_) (fun c19 => ?_)
  · replace h := if_t h c19
    obtain ⟨y20, ey20, h⟩ := lt_e h
    refine g_iincx C (ls' := [(3, (0, y20)), (0, (3, (b : Int))), (1, (2, 1)), (2, (2, 814))]) ey20 dL_law_1068 3 rfl (by decide) (by decide) rfl ?_
    refine g_goto C 18 dL_law_1071 rfl ?_
    refine g_sub [1, 2, 3, 0] rfl rfl ?_
    exact H _ _ h
  · replace h := if_f h c19
    refine g_iconst C (n := 0) dL_law_260 (by decide) ?_
    cases h
    exact absurd ho (by show ¬ ((0 : Int) = 1); decide)
def fL_262 (xs : Int → Int) (L : Int) (k : Int → V_ → Option (Int × V_)) (i : Int) (v : V_) : Option (Int × V_) :=
  bd_ (fX11_read 1 v) fun q21 =>
  bd_ (fX12_read 814 q21.2) fun q22 =>
  if q21.1 = q22.1 then (
    lt_ (wr_ (i + 6)) fun y24 =>
    k y24 q22.2)
  else (
    some (0, q22.2))
theorem tL_262 {E : En_} {p : Program} {l : Launch} {e : Env} {s : State} {m : MethodId} {below : List Frame} {meth : Method} {c : Code} {b L : Nat} {xs : Nat → Int32} (C : MC_ E p s m c code 4 "TraceDeskLaw") (hr : meth.sig.returnType = ret) (hlk : meth.locks = false) (hB : E.1 + 1 = s.heap.size) (hX : SX_ E b L xs s) (hC : Cl_ E.2.2.2.2.2 873) (hG : Pg_ E.2.2.2.2.2) (T1 : E.2.2.2.2.2 1 ∧ ty_ 1 = 11 ∧ ln_ 1 = 0) (T2 : E.2.2.2.2.2 814 ∧ ty_ 814 = 12 ∧ ln_ 814 = 0) {out : Int × V_} (ho : out.1 = 1) (k : Int → V_ → Option (Int × V_)) (H : ∀ (i : Int) (v : V_), k i v = some out → G_ E p l e room_1 s m #[.ref b] below meth c 4 1 (lw_Z below #[.ref b] s) 18 [(0, (3, (b : Int))), (1, (2, 1)), (2, (2, 814)), (3, (0, i))] [] v 873) (i : Int) (v : V_) (h : fL_262 (fun j => (xs j.toNat).toInt) (L : Int) k i v = some out) : G_ E p l e room_1 s m #[.ref b] below meth c 4 1 (lw_Z below #[.ref b] s) 262 [(0, (3, (b : Int))), (1, (2, 1)), (2, (2, 814)), (3, (0, i))] [] v 873 := by
  rw [fL_262] at h
  refine g_aload_n C (f := 1) dL_law_262 1 rfl ?_
  obtain ⟨q21, eq21, h⟩ := bd_e h
  refine g_cVk C [] (cX11_read_ok l hC hG T1 eq21) okX11 T1.2.1 (rg_ hC T1.1) km_L_23 cv_X11_read rfl (by decide) rfl rfl (by decide) ⟨by decide, by decide⟩ (Nat.le_of_ble_eq_true rfl) dL_law_263 ?_
  refine g_aload_n C (f := 2) dL_law_266 2 rfl ?_
  obtain ⟨q22, eq22, h⟩ := bd_e h
  refine g_cVk C [] (cX12_read_ok l hC T2 eq22) okX12 T2.2.1 (rg_ hC T2.1) km_L_27 cv_X12_read rfl (by decide) rfl rfl (by decide) ⟨by decide, by decide⟩ (Nat.le_of_ble_eq_true rfl) dL_law_267 ?_
  refine g_icmp_eq C 1068 dL_law_270 rfl (fun c23 => ?_) (fun c23 => ?_)
  · replace h := if_t h c23
    obtain ⟨y24, ey24, h⟩ := lt_e h
    refine g_iincx C (ls' := [(3, (0, y24)), (0, (3, (b : Int))), (1, (2, 1)), (2, (2, 814))]) ey24 dL_law_1068 3 rfl (by decide) (by decide) rfl ?_
    refine g_goto C 18 dL_law_1071 rfl ?_
    refine g_sub [1, 2, 3, 0] rfl rfl ?_
    exact H _ _ h
  · replace h := if_f h c23
    refine g_iconst C (n := 0) dL_law_273 (by decide) ?_
    cases h
    exact absurd ho (by show ¬ ((0 : Int) = 1); decide)
def fL_275 (xs : Int → Int) (L : Int) (k : Int → V_ → Option (Int × V_)) (i : Int) (v : V_) : Option (Int × V_) :=
  bd_ (fX11_place 1 v) fun q25 =>
  bd_ (fX12_place 814 q25.2) fun q26 =>
  if q25.1 = q26.1 then (
    lt_ (wr_ (i + 6)) fun y28 =>
    k y28 q26.2)
  else (
    some (0, q26.2))
theorem tL_275 {E : En_} {p : Program} {l : Launch} {e : Env} {s : State} {m : MethodId} {below : List Frame} {meth : Method} {c : Code} {b L : Nat} {xs : Nat → Int32} (C : MC_ E p s m c code 4 "TraceDeskLaw") (hr : meth.sig.returnType = ret) (hlk : meth.locks = false) (hB : E.1 + 1 = s.heap.size) (hX : SX_ E b L xs s) (hC : Cl_ E.2.2.2.2.2 873) (hG : Pg_ E.2.2.2.2.2) (T1 : E.2.2.2.2.2 1 ∧ ty_ 1 = 11 ∧ ln_ 1 = 0) (T2 : E.2.2.2.2.2 814 ∧ ty_ 814 = 12 ∧ ln_ 814 = 0) {out : Int × V_} (ho : out.1 = 1) (k : Int → V_ → Option (Int × V_)) (H : ∀ (i : Int) (v : V_), k i v = some out → G_ E p l e room_1 s m #[.ref b] below meth c 4 1 (lw_Z below #[.ref b] s) 18 [(0, (3, (b : Int))), (1, (2, 1)), (2, (2, 814)), (3, (0, i))] [] v 873) (i : Int) (v : V_) (h : fL_275 (fun j => (xs j.toNat).toInt) (L : Int) k i v = some out) : G_ E p l e room_1 s m #[.ref b] below meth c 4 1 (lw_Z below #[.ref b] s) 275 [(0, (3, (b : Int))), (1, (2, 1)), (2, (2, 814)), (3, (0, i))] [] v 873 := by
  rw [fL_275] at h
  refine g_aload_n C (f := 1) dL_law_275 1 rfl ?_
  obtain ⟨q25, eq25, h⟩ := bd_e h
  refine g_cVk C [] (cX11_place_ok l hC hG T1 eq25) okX11 T1.2.1 (rg_ hC T1.1) km_L_28 cv_X11_place rfl (by decide) rfl rfl (by decide) ⟨by decide, by decide⟩ (Nat.le_of_ble_eq_true rfl) dL_law_276 ?_
  refine g_aload_n C (f := 2) dL_law_279 2 rfl ?_
  obtain ⟨q26, eq26, h⟩ := bd_e h
  refine g_cVk C [] (cX12_place_ok l hC T2 eq26) okX12 T2.2.1 (rg_ hC T2.1) km_L_31 cv_X12_place rfl (by decide) rfl rfl (by decide) ⟨by decide, by decide⟩ (Nat.le_of_ble_eq_true rfl) dL_law_280 ?_
  refine g_icmp_eq C 1068 dL_law_283 rfl (fun c27 => ?_) (fun c27 => ?_)
  · replace h := if_t h c27
    obtain ⟨y28, ey28, h⟩ := lt_e h
    refine g_iincx C (ls' := [(3, (0, y28)), (0, (3, (b : Int))), (1, (2, 1)), (2, (2, 814))]) ey28 dL_law_1068 3 rfl (by decide) (by decide) rfl ?_
    refine g_goto C 18 dL_law_1071 rfl ?_
    refine g_sub [1, 2, 3, 0] rfl rfl ?_
    exact H _ _ h
  · replace h := if_f h c27
    refine g_iconst C (n := 0) dL_law_286 (by decide) ?_
    cases h
    exact absurd ho (by show ¬ ((0 : Int) = 1); decide)
def fL_288 (xs : Int → Int) (L : Int) (k : Int → V_ → Option (Int × V_)) (i : Int) (v : V_) : Option (Int × V_) :=
  ck_ (0 ≤ wr_ (i + 1) ∧ wr_ (i + 1) < L) (
  bd_ (fX11_reg 1 (xs (wr_ (i + 1))) v) fun q30 =>
  ck_ (0 ≤ wr_ (i + 1) ∧ wr_ (i + 1) < L) (
  bd_ (fX12_reg 814 (xs (wr_ (i + 1))) q30.2) fun q32 =>
  if q30.1 = q32.1 then (
    lt_ (wr_ (i + 6)) fun y34 =>
    k y34 q32.2)
  else (
    some (0, q32.2))))
theorem tL_288 {E : En_} {p : Program} {l : Launch} {e : Env} {s : State} {m : MethodId} {below : List Frame} {meth : Method} {c : Code} {b L : Nat} {xs : Nat → Int32} (C : MC_ E p s m c code 4 "TraceDeskLaw") (hr : meth.sig.returnType = ret) (hlk : meth.locks = false) (hB : E.1 + 1 = s.heap.size) (hX : SX_ E b L xs s) (hC : Cl_ E.2.2.2.2.2 873) (hG : Pg_ E.2.2.2.2.2) (T1 : E.2.2.2.2.2 1 ∧ ty_ 1 = 11 ∧ ln_ 1 = 0) (T2 : E.2.2.2.2.2 814 ∧ ty_ 814 = 12 ∧ ln_ 814 = 0) {out : Int × V_} (ho : out.1 = 1) (k : Int → V_ → Option (Int × V_)) (H : ∀ (i : Int) (v : V_), k i v = some out → G_ E p l e room_1 s m #[.ref b] below meth c 4 1 (lw_Z below #[.ref b] s) 18 [(0, (3, (b : Int))), (1, (2, 1)), (2, (2, 814)), (3, (0, i))] [] v 873) (i : Int) (v : V_) (h : fL_288 (fun j => (xs j.toNat).toInt) (L : Int) k i v = some out) : G_ E p l e room_1 s m #[.ref b] below meth c 4 1 (lw_Z below #[.ref b] s) 288 [(0, (3, (b : Int))), (1, (2, 1)), (2, (2, 814)), (3, (0, i))] [] v 873 := by
  rw [fL_288] at h
  refine g_aload_n C (f := 1) dL_law_288 1 rfl ?_
  refine g_aload3 C (f := 0) dL_law_289 0 rfl ?_
  refine g_iload_n C (f := 3) dL_law_290 3 rfl ?_
  refine g_iconst C (n := 1) dL_law_291 (by decide) ?_
  refine g_iadd C dL_law_292 ?_
  obtain ⟨c29, h⟩ := ck_e h
  refine g_xld C hX c29 dL_law_293 ?_
  obtain ⟨q30, eq30, h⟩ := bd_e h
  refine g_cVk C [(0, (fun j => (xs j.toNat).toInt) (wr_ (i + 1)))] (cX11_reg_ok l hC hG T1 eq30) okX11 T1.2.1 (rg_ hC T1.1) km_L_32 cv_X11_reg rfl (by decide) rfl rfl (by decide) ⟨by decide, by decide⟩ (Nat.le_of_ble_eq_true rfl) dL_law_294 ?_
  refine g_aload_n C (f := 2) dL_law_297 2 rfl ?_
  refine g_aload3 C (f := 0) dL_law_298 0 rfl ?_
  refine g_iload_n C (f := 3) dL_law_299 3 rfl ?_
  refine g_iconst C (n := 1) dL_law_300 (by decide) ?_
  refine g_iadd C dL_law_301 ?_
  obtain ⟨c31, h⟩ := ck_e h
  refine g_xld C hX c31 dL_law_302 ?_
  obtain ⟨q32, eq32, h⟩ := bd_e h
  refine g_cVk C [(0, (fun j => (xs j.toNat).toInt) (wr_ (i + 1)))] (cX12_reg_ok l hC T2 eq32) okX12 T2.2.1 (rg_ hC T2.1) km_L_35 cv_X12_reg rfl (by decide) rfl rfl (by decide) ⟨by decide, by decide⟩ (Nat.le_of_ble_eq_true rfl) dL_law_303 ?_
  refine g_icmp_eq C 1068 dL_law_306 rfl (fun c33 => ?_) (fun c33 => ?_)
  · replace h := if_t h c33
    obtain ⟨y34, ey34, h⟩ := lt_e h
    refine g_iincx C (ls' := [(3, (0, y34)), (0, (3, (b : Int))), (1, (2, 1)), (2, (2, 814))]) ey34 dL_law_1068 3 rfl (by decide) (by decide) rfl ?_
    refine g_goto C 18 dL_law_1071 rfl ?_
    refine g_sub [1, 2, 3, 0] rfl rfl ?_
    exact H _ _ h
  · replace h := if_f h c33
    refine g_iconst C (n := 0) dL_law_309 (by decide) ?_
    cases h
    exact absurd ho (by show ¬ ((0 : Int) = 1); decide)
def fL_311 (xs : Int → Int) (L : Int) (k : Int → V_ → Option (Int × V_)) (i : Int) (v : V_) : Option (Int × V_) :=
  ck_ (0 ≤ wr_ (i + 1) ∧ wr_ (i + 1) < L) (
  bd_ (fX11_cell 1 (xs (wr_ (i + 1))) v) fun q36 =>
  ck_ (0 ≤ wr_ (i + 1) ∧ wr_ (i + 1) < L) (
  bd_ (fX12_cell 814 (xs (wr_ (i + 1))) q36.2) fun q38 =>
  if q36.1 = q38.1 then (
    lt_ (wr_ (i + 6)) fun y40 =>
    k y40 q38.2)
  else (
    some (0, q38.2))))
theorem tL_311 {E : En_} {p : Program} {l : Launch} {e : Env} {s : State} {m : MethodId} {below : List Frame} {meth : Method} {c : Code} {b L : Nat} {xs : Nat → Int32} (C : MC_ E p s m c code 4 "TraceDeskLaw") (hr : meth.sig.returnType = ret) (hlk : meth.locks = false) (hB : E.1 + 1 = s.heap.size) (hX : SX_ E b L xs s) (hC : Cl_ E.2.2.2.2.2 873) (hG : Pg_ E.2.2.2.2.2) (T1 : E.2.2.2.2.2 1 ∧ ty_ 1 = 11 ∧ ln_ 1 = 0) (T2 : E.2.2.2.2.2 814 ∧ ty_ 814 = 12 ∧ ln_ 814 = 0) {out : Int × V_} (ho : out.1 = 1) (k : Int → V_ → Option (Int × V_)) (H : ∀ (i : Int) (v : V_), k i v = some out → G_ E p l e room_1 s m #[.ref b] below meth c 4 1 (lw_Z below #[.ref b] s) 18 [(0, (3, (b : Int))), (1, (2, 1)), (2, (2, 814)), (3, (0, i))] [] v 873) (i : Int) (v : V_) (h : fL_311 (fun j => (xs j.toNat).toInt) (L : Int) k i v = some out) : G_ E p l e room_1 s m #[.ref b] below meth c 4 1 (lw_Z below #[.ref b] s) 311 [(0, (3, (b : Int))), (1, (2, 1)), (2, (2, 814)), (3, (0, i))] [] v 873 := by
  rw [fL_311] at h
  refine g_aload_n C (f := 1) dL_law_311 1 rfl ?_
  refine g_aload3 C (f := 0) dL_law_312 0 rfl ?_
  refine g_iload_n C (f := 3) dL_law_313 3 rfl ?_
  refine g_iconst C (n := 1) dL_law_314 (by decide) ?_
  refine g_iadd C dL_law_315 ?_
  obtain ⟨c35, h⟩ := ck_e h
  refine g_xld C hX c35 dL_law_316 ?_
  obtain ⟨q36, eq36, h⟩ := bd_e h
  refine g_cVk C [(0, (fun j => (xs j.toNat).toInt) (wr_ (i + 1)))] (cX11_cell_ok l hC hG T1 eq36) okX11 T1.2.1 (rg_ hC T1.1) km_L_36 cv_X11_cell rfl (by decide) rfl rfl (by decide) ⟨by decide, by decide⟩ (Nat.le_of_ble_eq_true rfl) dL_law_317 ?_
  refine g_aload_n C (f := 2) dL_law_320 2 rfl ?_
  refine g_aload3 C (f := 0) dL_law_321 0 rfl ?_
  refine g_iload_n C (f := 3) dL_law_322 3 rfl ?_
  refine g_iconst C (n := 1) dL_law_323 (by decide) ?_
  refine g_iadd C dL_law_324 ?_
  obtain ⟨c37, h⟩ := ck_e h
  refine g_xld C hX c37 dL_law_325 ?_
  obtain ⟨q38, eq38, h⟩ := bd_e h
  refine g_cVk C [(0, (fun j => (xs j.toNat).toInt) (wr_ (i + 1)))] (cX12_cell_ok l hC T2 eq38) okX12 T2.2.1 (rg_ hC T2.1) km_L_39 cv_X12_cell rfl (by decide) rfl rfl (by decide) ⟨by decide, by decide⟩ (Nat.le_of_ble_eq_true rfl) dL_law_326 ?_
  refine g_icmp_eq C 1068 dL_law_329 rfl (fun c39 => ?_) (fun c39 => ?_)
  · replace h := if_t h c39
    obtain ⟨y40, ey40, h⟩ := lt_e h
    refine g_iincx C (ls' := [(3, (0, y40)), (0, (3, (b : Int))), (1, (2, 1)), (2, (2, 814))]) ey40 dL_law_1068 3 rfl (by decide) (by decide) rfl ?_
    refine g_goto C 18 dL_law_1071 rfl ?_
    refine g_sub [1, 2, 3, 0] rfl rfl ?_
    exact H _ _ h
  · replace h := if_f h c39
    refine g_iconst C (n := 0) dL_law_332 (by decide) ?_
    cases h
    exact absurd ho (by show ¬ ((0 : Int) = 1); decide)
def fL_334 (xs : Int → Int) (L : Int) (k : Int → V_ → Option (Int × V_)) (i : Int) (v : V_) : Option (Int × V_) :=
  ck_ (0 ≤ wr_ (i + 1) ∧ wr_ (i + 1) < L) (
  ck_ (0 ≤ wr_ (i + 2) ∧ wr_ (i + 2) < L) (
  bd_ (fX11_kind 1 (xs (wr_ (i + 1))) (xs (wr_ (i + 2))) v) fun q43 =>
  ck_ (0 ≤ wr_ (i + 1) ∧ wr_ (i + 1) < L) (
  ck_ (0 ≤ wr_ (i + 2) ∧ wr_ (i + 2) < L) (
  bd_ (fX12_kind 814 (xs (wr_ (i + 1))) (xs (wr_ (i + 2))) q43.2) fun q46 =>
  if q43.1 = q46.1 then (
    lt_ (wr_ (i + 6)) fun y48 =>
    k y48 q46.2)
  else (
    some (0, q46.2))))))
theorem tL_334 {E : En_} {p : Program} {l : Launch} {e : Env} {s : State} {m : MethodId} {below : List Frame} {meth : Method} {c : Code} {b L : Nat} {xs : Nat → Int32} (C : MC_ E p s m c code 4 "TraceDeskLaw") (hr : meth.sig.returnType = ret) (hlk : meth.locks = false) (hB : E.1 + 1 = s.heap.size) (hX : SX_ E b L xs s) (hC : Cl_ E.2.2.2.2.2 873) (hG : Pg_ E.2.2.2.2.2) (T1 : E.2.2.2.2.2 1 ∧ ty_ 1 = 11 ∧ ln_ 1 = 0) (T2 : E.2.2.2.2.2 814 ∧ ty_ 814 = 12 ∧ ln_ 814 = 0) {out : Int × V_} (ho : out.1 = 1) (k : Int → V_ → Option (Int × V_)) (H : ∀ (i : Int) (v : V_), k i v = some out → G_ E p l e room_1 s m #[.ref b] below meth c 4 1 (lw_Z below #[.ref b] s) 18 [(0, (3, (b : Int))), (1, (2, 1)), (2, (2, 814)), (3, (0, i))] [] v 873) (i : Int) (v : V_) (h : fL_334 (fun j => (xs j.toNat).toInt) (L : Int) k i v = some out) : G_ E p l e room_1 s m #[.ref b] below meth c 4 1 (lw_Z below #[.ref b] s) 334 [(0, (3, (b : Int))), (1, (2, 1)), (2, (2, 814)), (3, (0, i))] [] v 873 := by
  rw [fL_334] at h
  refine g_aload_n C (f := 1) dL_law_334 1 rfl ?_
  refine g_aload3 C (f := 0) dL_law_335 0 rfl ?_
  refine g_iload_n C (f := 3) dL_law_336 3 rfl ?_
  refine g_iconst C (n := 1) dL_law_337 (by decide) ?_
  refine g_iadd C dL_law_338 ?_
  obtain ⟨c41, h⟩ := ck_e h
  refine g_xld C hX c41 dL_law_339 ?_
  refine g_aload3 C (f := 0) dL_law_340 0 rfl ?_
  refine g_iload_n C (f := 3) dL_law_341 3 rfl ?_
  refine g_iconst C (n := 2) dL_law_342 (by decide) ?_
  refine g_iadd C dL_law_343 ?_
  obtain ⟨c42, h⟩ := ck_e h
  refine g_xld C hX c42 dL_law_344 ?_
  obtain ⟨q43, eq43, h⟩ := bd_e h
  refine g_cVk C [(0, (fun j => (xs j.toNat).toInt) (wr_ (i + 1))), (0, (fun j => (xs j.toNat).toInt) (wr_ (i + 2)))] (cX11_kind_ok l hC hG T1 eq43) okX11 T1.2.1 (rg_ hC T1.1) km_L_40 cv_X11_kind rfl (by decide) rfl rfl (by decide) ⟨by decide, by decide⟩ (Nat.le_of_ble_eq_true rfl) dL_law_345 ?_
  refine g_aload_n C (f := 2) dL_law_348 2 rfl ?_
  refine g_aload3 C (f := 0) dL_law_349 0 rfl ?_
  refine g_iload_n C (f := 3) dL_law_350 3 rfl ?_
  refine g_iconst C (n := 1) dL_law_351 (by decide) ?_
  refine g_iadd C dL_law_352 ?_
  obtain ⟨c44, h⟩ := ck_e h
  refine g_xld C hX c44 dL_law_353 ?_
  refine g_aload3 C (f := 0) dL_law_354 0 rfl ?_
  refine g_iload_n C (f := 3) dL_law_355 3 rfl ?_
  refine g_iconst C (n := 2) dL_law_356 (by decide) ?_
  refine g_iadd C dL_law_357 ?_
  obtain ⟨c45, h⟩ := ck_e h
  refine g_xld C hX c45 dL_law_358 ?_
  obtain ⟨q46, eq46, h⟩ := bd_e h
  refine g_cVk C [(0, (fun j => (xs j.toNat).toInt) (wr_ (i + 1))), (0, (fun j => (xs j.toNat).toInt) (wr_ (i + 2)))] (cX12_kind_ok l hC T2 eq46) okX12 T2.2.1 (rg_ hC T2.1) km_L_44 cv_X12_kind rfl (by decide) rfl rfl (by decide) ⟨by decide, by decide⟩ (Nat.le_of_ble_eq_true rfl) dL_law_359 ?_
  refine g_icmp_eq C 1068 dL_law_362 rfl (fun c47 => ?_) (fun c47 => ?_)
  · replace h := if_t h c47
    obtain ⟨y48, ey48, h⟩ := lt_e h
    refine g_iincx C (ls' := [(3, (0, y48)), (0, (3, (b : Int))), (1, (2, 1)), (2, (2, 814))]) ey48 dL_law_1068 3 rfl (by decide) (by decide) rfl ?_
    refine g_goto C 18 dL_law_1071 rfl ?_
    refine g_sub [1, 2, 3, 0] rfl rfl ?_
    exact H _ _ h
  · replace h := if_f h c47
    refine g_iconst C (n := 0) dL_law_365 (by decide) ?_
    cases h
    exact absurd ho (by show ¬ ((0 : Int) = 1); decide)
def fL_367 (xs : Int → Int) (L : Int) (k : Int → V_ → Option (Int × V_)) (i : Int) (v : V_) : Option (Int × V_) :=
  ck_ (0 ≤ wr_ (i + 1) ∧ wr_ (i + 1) < L) (
  ck_ (0 ≤ wr_ (i + 2) ∧ wr_ (i + 2) < L) (
  bd_ (fX11_block 1 (xs (wr_ (i + 1))) (xs (wr_ (i + 2))) v) fun q51 =>
  ck_ (0 ≤ wr_ (i + 1) ∧ wr_ (i + 1) < L) (
  ck_ (0 ≤ wr_ (i + 2) ∧ wr_ (i + 2) < L) (
  bd_ (fX12_block 814 (xs (wr_ (i + 1))) (xs (wr_ (i + 2))) q51.2) fun q54 =>
  if q51.1 = q54.1 then (
    lt_ (wr_ (i + 6)) fun y56 =>
    k y56 q54.2)
  else (
    some (0, q54.2))))))
theorem tL_367 {E : En_} {p : Program} {l : Launch} {e : Env} {s : State} {m : MethodId} {below : List Frame} {meth : Method} {c : Code} {b L : Nat} {xs : Nat → Int32} (C : MC_ E p s m c code 4 "TraceDeskLaw") (hr : meth.sig.returnType = ret) (hlk : meth.locks = false) (hB : E.1 + 1 = s.heap.size) (hX : SX_ E b L xs s) (hC : Cl_ E.2.2.2.2.2 873) (hG : Pg_ E.2.2.2.2.2) (T1 : E.2.2.2.2.2 1 ∧ ty_ 1 = 11 ∧ ln_ 1 = 0) (T2 : E.2.2.2.2.2 814 ∧ ty_ 814 = 12 ∧ ln_ 814 = 0) {out : Int × V_} (ho : out.1 = 1) (k : Int → V_ → Option (Int × V_)) (H : ∀ (i : Int) (v : V_), k i v = some out → G_ E p l e room_1 s m #[.ref b] below meth c 4 1 (lw_Z below #[.ref b] s) 18 [(0, (3, (b : Int))), (1, (2, 1)), (2, (2, 814)), (3, (0, i))] [] v 873) (i : Int) (v : V_) (h : fL_367 (fun j => (xs j.toNat).toInt) (L : Int) k i v = some out) : G_ E p l e room_1 s m #[.ref b] below meth c 4 1 (lw_Z below #[.ref b] s) 367 [(0, (3, (b : Int))), (1, (2, 1)), (2, (2, 814)), (3, (0, i))] [] v 873 := by
  rw [fL_367] at h
  refine g_aload_n C (f := 1) dL_law_367 1 rfl ?_
  refine g_aload3 C (f := 0) dL_law_368 0 rfl ?_
  refine g_iload_n C (f := 3) dL_law_369 3 rfl ?_
  refine g_iconst C (n := 1) dL_law_370 (by decide) ?_
  refine g_iadd C dL_law_371 ?_
  obtain ⟨c49, h⟩ := ck_e h
  refine g_xld C hX c49 dL_law_372 ?_
  refine g_aload3 C (f := 0) dL_law_373 0 rfl ?_
  refine g_iload_n C (f := 3) dL_law_374 3 rfl ?_
  refine g_iconst C (n := 2) dL_law_375 (by decide) ?_
  refine g_iadd C dL_law_376 ?_
  obtain ⟨c50, h⟩ := ck_e h
  refine g_xld C hX c50 dL_law_377 ?_
  obtain ⟨q51, eq51, h⟩ := bd_e h
  refine g_cVk C [(0, (fun j => (xs j.toNat).toInt) (wr_ (i + 1))), (0, (fun j => (xs j.toNat).toInt) (wr_ (i + 2)))] (cX11_block_ok l hC hG T1 eq51) okX11 T1.2.1 (rg_ hC T1.1) km_L_45 cv_X11_block rfl (by decide) rfl rfl (by decide) ⟨by decide, by decide⟩ (Nat.le_of_ble_eq_true rfl) dL_law_378 ?_
  refine g_aload_n C (f := 2) dL_law_381 2 rfl ?_
  refine g_aload3 C (f := 0) dL_law_382 0 rfl ?_
  refine g_iload_n C (f := 3) dL_law_383 3 rfl ?_
  refine g_iconst C (n := 1) dL_law_384 (by decide) ?_
  refine g_iadd C dL_law_385 ?_
  obtain ⟨c52, h⟩ := ck_e h
  refine g_xld C hX c52 dL_law_386 ?_
  refine g_aload3 C (f := 0) dL_law_387 0 rfl ?_
  refine g_iload_n C (f := 3) dL_law_388 3 rfl ?_
  refine g_iconst C (n := 2) dL_law_389 (by decide) ?_
  refine g_iadd C dL_law_390 ?_
  obtain ⟨c53, h⟩ := ck_e h
  refine g_xld C hX c53 dL_law_391 ?_
  obtain ⟨q54, eq54, h⟩ := bd_e h
  refine g_cVk C [(0, (fun j => (xs j.toNat).toInt) (wr_ (i + 1))), (0, (fun j => (xs j.toNat).toInt) (wr_ (i + 2)))] (cX12_block_ok l hC T2 eq54) okX12 T2.2.1 (rg_ hC T2.1) km_L_48 cv_X12_block rfl (by decide) rfl rfl (by decide) ⟨by decide, by decide⟩ (Nat.le_of_ble_eq_true rfl) dL_law_392 ?_
  refine g_icmp_eq C 1068 dL_law_395 rfl (fun c55 => ?_) (fun c55 => ?_)
  · replace h := if_t h c55
    obtain ⟨y56, ey56, h⟩ := lt_e h
    refine g_iincx C (ls' := [(3, (0, y56)), (0, (3, (b : Int))), (1, (2, 1)), (2, (2, 814))]) ey56 dL_law_1068 3 rfl (by decide) (by decide) rfl ?_
    refine g_goto C 18 dL_law_1071 rfl ?_
    refine g_sub [1, 2, 3, 0] rfl rfl ?_
    exact H _ _ h
  · replace h := if_f h c55
    refine g_iconst C (n := 0) dL_law_398 (by decide) ?_
    cases h
    exact absurd ho (by show ¬ ((0 : Int) = 1); decide)
def fL_400 (xs : Int → Int) (L : Int) (k : Int → V_ → Option (Int × V_)) (i : Int) (v : V_) : Option (Int × V_) :=
  ck_ (0 ≤ wr_ (i + 1) ∧ wr_ (i + 1) < L) (
  ck_ (0 ≤ wr_ (i + 2) ∧ wr_ (i + 2) < L) (
  bd_ (fX11_gone 1 (xs (wr_ (i + 1))) (xs (wr_ (i + 2))) v) fun q59 =>
  ck_ (0 ≤ wr_ (i + 1) ∧ wr_ (i + 1) < L) (
  ck_ (0 ≤ wr_ (i + 2) ∧ wr_ (i + 2) < L) (
  bd_ (fX12_gone 814 (xs (wr_ (i + 1))) (xs (wr_ (i + 2))) q59.2) fun q62 =>
  if q59.1 = q62.1 then (
    lt_ (wr_ (i + 6)) fun y64 =>
    k y64 q62.2)
  else (
    some (0, q62.2))))))
theorem tL_400 {E : En_} {p : Program} {l : Launch} {e : Env} {s : State} {m : MethodId} {below : List Frame} {meth : Method} {c : Code} {b L : Nat} {xs : Nat → Int32} (C : MC_ E p s m c code 4 "TraceDeskLaw") (hr : meth.sig.returnType = ret) (hlk : meth.locks = false) (hB : E.1 + 1 = s.heap.size) (hX : SX_ E b L xs s) (hC : Cl_ E.2.2.2.2.2 873) (hG : Pg_ E.2.2.2.2.2) (T1 : E.2.2.2.2.2 1 ∧ ty_ 1 = 11 ∧ ln_ 1 = 0) (T2 : E.2.2.2.2.2 814 ∧ ty_ 814 = 12 ∧ ln_ 814 = 0) {out : Int × V_} (ho : out.1 = 1) (k : Int → V_ → Option (Int × V_)) (H : ∀ (i : Int) (v : V_), k i v = some out → G_ E p l e room_1 s m #[.ref b] below meth c 4 1 (lw_Z below #[.ref b] s) 18 [(0, (3, (b : Int))), (1, (2, 1)), (2, (2, 814)), (3, (0, i))] [] v 873) (i : Int) (v : V_) (h : fL_400 (fun j => (xs j.toNat).toInt) (L : Int) k i v = some out) : G_ E p l e room_1 s m #[.ref b] below meth c 4 1 (lw_Z below #[.ref b] s) 400 [(0, (3, (b : Int))), (1, (2, 1)), (2, (2, 814)), (3, (0, i))] [] v 873 := by
  rw [fL_400] at h
  refine g_aload_n C (f := 1) dL_law_400 1 rfl ?_
  refine g_aload3 C (f := 0) dL_law_401 0 rfl ?_
  refine g_iload_n C (f := 3) dL_law_402 3 rfl ?_
  refine g_iconst C (n := 1) dL_law_403 (by decide) ?_
  refine g_iadd C dL_law_404 ?_
  obtain ⟨c57, h⟩ := ck_e h
  refine g_xld C hX c57 dL_law_405 ?_
  refine g_aload3 C (f := 0) dL_law_406 0 rfl ?_
  refine g_iload_n C (f := 3) dL_law_407 3 rfl ?_
  refine g_iconst C (n := 2) dL_law_408 (by decide) ?_
  refine g_iadd C dL_law_409 ?_
  obtain ⟨c58, h⟩ := ck_e h
  refine g_xld C hX c58 dL_law_410 ?_
  obtain ⟨q59, eq59, h⟩ := bd_e h
  refine g_cVk C [(0, (fun j => (xs j.toNat).toInt) (wr_ (i + 1))), (0, (fun j => (xs j.toNat).toInt) (wr_ (i + 2)))] (cX11_gone_ok l hC hG T1 eq59) okX11 T1.2.1 (rg_ hC T1.1) km_L_49 cv_X11_gone rfl (by decide) rfl rfl (by decide) ⟨by decide, by decide⟩ (Nat.le_of_ble_eq_true rfl) dL_law_411 ?_
  refine g_aload_n C (f := 2) dL_law_414 2 rfl ?_
  refine g_aload3 C (f := 0) dL_law_415 0 rfl ?_
  refine g_iload_n C (f := 3) dL_law_416 3 rfl ?_
  refine g_iconst C (n := 1) dL_law_417 (by decide) ?_
  refine g_iadd C dL_law_418 ?_
  obtain ⟨c60, h⟩ := ck_e h
  refine g_xld C hX c60 dL_law_419 ?_
  refine g_aload3 C (f := 0) dL_law_420 0 rfl ?_
  refine g_iload_n C (f := 3) dL_law_421 3 rfl ?_
  refine g_iconst C (n := 2) dL_law_422 (by decide) ?_
  refine g_iadd C dL_law_423 ?_
  obtain ⟨c61, h⟩ := ck_e h
  refine g_xld C hX c61 dL_law_424 ?_
  obtain ⟨q62, eq62, h⟩ := bd_e h
  refine g_cVk C [(0, (fun j => (xs j.toNat).toInt) (wr_ (i + 1))), (0, (fun j => (xs j.toNat).toInt) (wr_ (i + 2)))] (cX12_gone_ok l hC T2 eq62) okX12 T2.2.1 (rg_ hC T2.1) km_L_52 cv_X12_gone rfl (by decide) rfl rfl (by decide) ⟨by decide, by decide⟩ (Nat.le_of_ble_eq_true rfl) dL_law_425 ?_
  refine g_icmp_eq C 1068 dL_law_428 rfl (fun c63 => ?_) (fun c63 => ?_)
  · replace h := if_t h c63
    obtain ⟨y64, ey64, h⟩ := lt_e h
    refine g_iincx C (ls' := [(3, (0, y64)), (0, (3, (b : Int))), (1, (2, 1)), (2, (2, 814))]) ey64 dL_law_1068 3 rfl (by decide) (by decide) rfl ?_
    refine g_goto C 18 dL_law_1071 rfl ?_
    refine g_sub [1, 2, 3, 0] rfl rfl ?_
    exact H _ _ h
  · replace h := if_f h c63
    refine g_iconst C (n := 0) dL_law_431 (by decide) ?_
    cases h
    exact absurd ho (by show ¬ ((0 : Int) = 1); decide)
def fL_433 (xs : Int → Int) (L : Int) (k : Int → V_ → Option (Int × V_)) (i : Int) (v : V_) : Option (Int × V_) :=
  ck_ (0 ≤ wr_ (i + 1) ∧ wr_ (i + 1) < L) (
  ck_ (0 ≤ wr_ (i + 2) ∧ wr_ (i + 2) < L) (
  bd_ (fX11_set 1 (xs (wr_ (i + 1))) (xs (wr_ (i + 2))) v) fun q67 =>
  ck_ (0 ≤ wr_ (i + 1) ∧ wr_ (i + 1) < L) (
  ck_ (0 ≤ wr_ (i + 2) ∧ wr_ (i + 2) < L) (
  bd_ (fX12_set 814 (xs (wr_ (i + 1))) (xs (wr_ (i + 2))) q67.2) fun q70 =>
  if q67.1 = q70.1 then (
    lt_ (wr_ (i + 6)) fun y72 =>
    k y72 q70.2)
  else (
    some (0, q70.2))))))
theorem tL_433 {E : En_} {p : Program} {l : Launch} {e : Env} {s : State} {m : MethodId} {below : List Frame} {meth : Method} {c : Code} {b L : Nat} {xs : Nat → Int32} (C : MC_ E p s m c code 4 "TraceDeskLaw") (hr : meth.sig.returnType = ret) (hlk : meth.locks = false) (hB : E.1 + 1 = s.heap.size) (hX : SX_ E b L xs s) (hC : Cl_ E.2.2.2.2.2 873) (hG : Pg_ E.2.2.2.2.2) (T1 : E.2.2.2.2.2 1 ∧ ty_ 1 = 11 ∧ ln_ 1 = 0) (T2 : E.2.2.2.2.2 814 ∧ ty_ 814 = 12 ∧ ln_ 814 = 0) {out : Int × V_} (ho : out.1 = 1) (k : Int → V_ → Option (Int × V_)) (H : ∀ (i : Int) (v : V_), k i v = some out → G_ E p l e room_1 s m #[.ref b] below meth c 4 1 (lw_Z below #[.ref b] s) 18 [(0, (3, (b : Int))), (1, (2, 1)), (2, (2, 814)), (3, (0, i))] [] v 873) (i : Int) (v : V_) (h : fL_433 (fun j => (xs j.toNat).toInt) (L : Int) k i v = some out) : G_ E p l e room_1 s m #[.ref b] below meth c 4 1 (lw_Z below #[.ref b] s) 433 [(0, (3, (b : Int))), (1, (2, 1)), (2, (2, 814)), (3, (0, i))] [] v 873 := by
  rw [fL_433] at h
  refine g_aload_n C (f := 1) dL_law_433 1 rfl ?_
  refine g_aload3 C (f := 0) dL_law_434 0 rfl ?_
  refine g_iload_n C (f := 3) dL_law_435 3 rfl ?_
  refine g_iconst C (n := 1) dL_law_436 (by decide) ?_
  refine g_iadd C dL_law_437 ?_
  obtain ⟨c65, h⟩ := ck_e h
  refine g_xld C hX c65 dL_law_438 ?_
  refine g_aload3 C (f := 0) dL_law_439 0 rfl ?_
  refine g_iload_n C (f := 3) dL_law_440 3 rfl ?_
  refine g_iconst C (n := 2) dL_law_441 (by decide) ?_
  refine g_iadd C dL_law_442 ?_
  obtain ⟨c66, h⟩ := ck_e h
  refine g_xld C hX c66 dL_law_443 ?_
  obtain ⟨q67, eq67, h⟩ := bd_e h
  refine g_cVk C [(0, (fun j => (xs j.toNat).toInt) (wr_ (i + 1))), (0, (fun j => (xs j.toNat).toInt) (wr_ (i + 2)))] (cX11_set_ok l hC hG T1 eq67) okX11 T1.2.1 (rg_ hC T1.1) km_L_53 cv_X11_set rfl (by decide) rfl rfl (by decide) ⟨by decide, by decide⟩ (Nat.le_of_ble_eq_true rfl) dL_law_444 ?_
  refine g_aload_n C (f := 2) dL_law_447 2 rfl ?_
  refine g_aload3 C (f := 0) dL_law_448 0 rfl ?_
  refine g_iload_n C (f := 3) dL_law_449 3 rfl ?_
  refine g_iconst C (n := 1) dL_law_450 (by decide) ?_
  refine g_iadd C dL_law_451 ?_
  obtain ⟨c68, h⟩ := ck_e h
  refine g_xld C hX c68 dL_law_452 ?_
  refine g_aload3 C (f := 0) dL_law_453 0 rfl ?_
  refine g_iload_n C (f := 3) dL_law_454 3 rfl ?_
  refine g_iconst C (n := 2) dL_law_455 (by decide) ?_
  refine g_iadd C dL_law_456 ?_
  obtain ⟨c69, h⟩ := ck_e h
  refine g_xld C hX c69 dL_law_457 ?_
  obtain ⟨q70, eq70, h⟩ := bd_e h
  refine g_cVk C [(0, (fun j => (xs j.toNat).toInt) (wr_ (i + 1))), (0, (fun j => (xs j.toNat).toInt) (wr_ (i + 2)))] (cX12_set_ok l hC T2 eq70) okX12 T2.2.1 (rg_ hC T2.1) km_L_57 cv_X12_set rfl (by decide) rfl rfl (by decide) ⟨by decide, by decide⟩ (Nat.le_of_ble_eq_true rfl) dL_law_458 ?_
  refine g_icmp_eq C 1068 dL_law_461 rfl (fun c71 => ?_) (fun c71 => ?_)
  · replace h := if_t h c71
    obtain ⟨y72, ey72, h⟩ := lt_e h
    refine g_iincx C (ls' := [(3, (0, y72)), (0, (3, (b : Int))), (1, (2, 1)), (2, (2, 814))]) ey72 dL_law_1068 3 rfl (by decide) (by decide) rfl ?_
    refine g_goto C 18 dL_law_1071 rfl ?_
    refine g_sub [1, 2, 3, 0] rfl rfl ?_
    exact H _ _ h
  · replace h := if_f h c71
    refine g_iconst C (n := 0) dL_law_464 (by decide) ?_
    cases h
    exact absurd ho (by show ¬ ((0 : Int) = 1); decide)
def fL_466 (xs : Int → Int) (L : Int) (k : Int → V_ → Option (Int × V_)) (i : Int) (v : V_) : Option (Int × V_) :=
  ck_ (0 ≤ wr_ (i + 1) ∧ wr_ (i + 1) < L) (
  ck_ (0 ≤ wr_ (i + 2) ∧ wr_ (i + 2) < L) (
  bd_ (fX11_put 1 (xs (wr_ (i + 1))) (xs (wr_ (i + 2))) v) fun q75 =>
  ck_ (0 ≤ wr_ (i + 1) ∧ wr_ (i + 1) < L) (
  ck_ (0 ≤ wr_ (i + 2) ∧ wr_ (i + 2) < L) (
  bd_ (fX12_put 814 (xs (wr_ (i + 1))) (xs (wr_ (i + 2))) q75.2) fun q78 =>
  if q75.1 = q78.1 then (
    lt_ (wr_ (i + 6)) fun y80 =>
    k y80 q78.2)
  else (
    some (0, q78.2))))))
theorem tL_466 {E : En_} {p : Program} {l : Launch} {e : Env} {s : State} {m : MethodId} {below : List Frame} {meth : Method} {c : Code} {b L : Nat} {xs : Nat → Int32} (C : MC_ E p s m c code 4 "TraceDeskLaw") (hr : meth.sig.returnType = ret) (hlk : meth.locks = false) (hB : E.1 + 1 = s.heap.size) (hX : SX_ E b L xs s) (hC : Cl_ E.2.2.2.2.2 873) (hG : Pg_ E.2.2.2.2.2) (T1 : E.2.2.2.2.2 1 ∧ ty_ 1 = 11 ∧ ln_ 1 = 0) (T2 : E.2.2.2.2.2 814 ∧ ty_ 814 = 12 ∧ ln_ 814 = 0) {out : Int × V_} (ho : out.1 = 1) (k : Int → V_ → Option (Int × V_)) (H : ∀ (i : Int) (v : V_), k i v = some out → G_ E p l e room_1 s m #[.ref b] below meth c 4 1 (lw_Z below #[.ref b] s) 18 [(0, (3, (b : Int))), (1, (2, 1)), (2, (2, 814)), (3, (0, i))] [] v 873) (i : Int) (v : V_) (h : fL_466 (fun j => (xs j.toNat).toInt) (L : Int) k i v = some out) : G_ E p l e room_1 s m #[.ref b] below meth c 4 1 (lw_Z below #[.ref b] s) 466 [(0, (3, (b : Int))), (1, (2, 1)), (2, (2, 814)), (3, (0, i))] [] v 873 := by
  rw [fL_466] at h
  refine g_aload_n C (f := 1) dL_law_466 1 rfl ?_
  refine g_aload3 C (f := 0) dL_law_467 0 rfl ?_
  refine g_iload_n C (f := 3) dL_law_468 3 rfl ?_
  refine g_iconst C (n := 1) dL_law_469 (by decide) ?_
  refine g_iadd C dL_law_470 ?_
  obtain ⟨c73, h⟩ := ck_e h
  refine g_xld C hX c73 dL_law_471 ?_
  refine g_aload3 C (f := 0) dL_law_472 0 rfl ?_
  refine g_iload_n C (f := 3) dL_law_473 3 rfl ?_
  refine g_iconst C (n := 2) dL_law_474 (by decide) ?_
  refine g_iadd C dL_law_475 ?_
  obtain ⟨c74, h⟩ := ck_e h
  refine g_xld C hX c74 dL_law_476 ?_
  obtain ⟨q75, eq75, h⟩ := bd_e h
  refine g_cVk C [(0, (fun j => (xs j.toNat).toInt) (wr_ (i + 1))), (0, (fun j => (xs j.toNat).toInt) (wr_ (i + 2)))] (cX11_put_ok l hC hG T1 eq75) okX11 T1.2.1 (rg_ hC T1.1) km_L_58 cv_X11_put rfl (by decide) rfl rfl (by decide) ⟨by decide, by decide⟩ (Nat.le_of_ble_eq_true rfl) dL_law_477 ?_
  refine g_aload_n C (f := 2) dL_law_480 2 rfl ?_
  refine g_aload3 C (f := 0) dL_law_481 0 rfl ?_
  refine g_iload_n C (f := 3) dL_law_482 3 rfl ?_
  refine g_iconst C (n := 1) dL_law_483 (by decide) ?_
  refine g_iadd C dL_law_484 ?_
  obtain ⟨c76, h⟩ := ck_e h
  refine g_xld C hX c76 dL_law_485 ?_
  refine g_aload3 C (f := 0) dL_law_486 0 rfl ?_
  refine g_iload_n C (f := 3) dL_law_487 3 rfl ?_
  refine g_iconst C (n := 2) dL_law_488 (by decide) ?_
  refine g_iadd C dL_law_489 ?_
  obtain ⟨c77, h⟩ := ck_e h
  refine g_xld C hX c77 dL_law_490 ?_
  obtain ⟨q78, eq78, h⟩ := bd_e h
  refine g_cVk C [(0, (fun j => (xs j.toNat).toInt) (wr_ (i + 1))), (0, (fun j => (xs j.toNat).toInt) (wr_ (i + 2)))] (cX12_put_ok l hC T2 eq78) okX12 T2.2.1 (rg_ hC T2.1) km_L_61 cv_X12_put rfl (by decide) rfl rfl (by decide) ⟨by decide, by decide⟩ (Nat.le_of_ble_eq_true rfl) dL_law_491 ?_
  refine g_icmp_eq C 1068 dL_law_494 rfl (fun c79 => ?_) (fun c79 => ?_)
  · replace h := if_t h c79
    obtain ⟨y80, ey80, h⟩ := lt_e h
    refine g_iincx C (ls' := [(3, (0, y80)), (0, (3, (b : Int))), (1, (2, 1)), (2, (2, 814))]) ey80 dL_law_1068 3 rfl (by decide) (by decide) rfl ?_
    refine g_goto C 18 dL_law_1071 rfl ?_
    refine g_sub [1, 2, 3, 0] rfl rfl ?_
    exact H _ _ h
  · replace h := if_f h c79
    refine g_iconst C (n := 0) dL_law_497 (by decide) ?_
    cases h
    exact absurd ho (by show ¬ ((0 : Int) = 1); decide)
def fL_499 (xs : Int → Int) (L : Int) (k : Int → V_ → Option (Int × V_)) (i : Int) (v : V_) : Option (Int × V_) :=
  bd_ (fX11_run 1 v) fun q81 =>
  bd_ (fX12_run 814 q81.2) fun q82 =>
  if q81.1 = q82.1 then (
    lt_ (wr_ (i + 6)) fun y84 =>
    k y84 q82.2)
  else (
    some (0, q82.2))
theorem tL_499 {E : En_} {p : Program} {l : Launch} {e : Env} {s : State} {m : MethodId} {below : List Frame} {meth : Method} {c : Code} {b L : Nat} {xs : Nat → Int32} (C : MC_ E p s m c code 4 "TraceDeskLaw") (hr : meth.sig.returnType = ret) (hlk : meth.locks = false) (hB : E.1 + 1 = s.heap.size) (hX : SX_ E b L xs s) (hC : Cl_ E.2.2.2.2.2 873) (hG : Pg_ E.2.2.2.2.2) (T1 : E.2.2.2.2.2 1 ∧ ty_ 1 = 11 ∧ ln_ 1 = 0) (T2 : E.2.2.2.2.2 814 ∧ ty_ 814 = 12 ∧ ln_ 814 = 0) {out : Int × V_} (ho : out.1 = 1) (k : Int → V_ → Option (Int × V_)) (H : ∀ (i : Int) (v : V_), k i v = some out → G_ E p l e room_1 s m #[.ref b] below meth c 4 1 (lw_Z below #[.ref b] s) 18 [(0, (3, (b : Int))), (1, (2, 1)), (2, (2, 814)), (3, (0, i))] [] v 873) (i : Int) (v : V_) (h : fL_499 (fun j => (xs j.toNat).toInt) (L : Int) k i v = some out) : G_ E p l e room_1 s m #[.ref b] below meth c 4 1 (lw_Z below #[.ref b] s) 499 [(0, (3, (b : Int))), (1, (2, 1)), (2, (2, 814)), (3, (0, i))] [] v 873 := by
  rw [fL_499] at h
  refine g_aload_n C (f := 1) dL_law_499 1 rfl ?_
  obtain ⟨q81, eq81, h⟩ := bd_e h
  refine g_cVk C [] (cX11_run_ok l hC hG T1 eq81) okX11 T1.2.1 (rg_ hC T1.1) km_L_62 cv_X11_run rfl (by decide) rfl rfl (by decide) ⟨by decide, by decide⟩ (Nat.le_of_ble_eq_true rfl) dL_law_500 ?_
  refine g_aload_n C (f := 2) dL_law_503 2 rfl ?_
  obtain ⟨q82, eq82, h⟩ := bd_e h
  refine g_cVk C [] (cX12_run_ok l hC T2 eq82) okX12 T2.2.1 (rg_ hC T2.1) km_L_65 cv_X12_run rfl (by decide) rfl rfl (by decide) ⟨by decide, by decide⟩ (Nat.le_of_ble_eq_true rfl) dL_law_504 ?_
  refine g_icmp_eq C 1068 dL_law_507 rfl (fun c83 => ?_) (fun c83 => ?_)
  · replace h := if_t h c83
    obtain ⟨y84, ey84, h⟩ := lt_e h
    refine g_iincx C (ls' := [(3, (0, y84)), (0, (3, (b : Int))), (1, (2, 1)), (2, (2, 814))]) ey84 dL_law_1068 3 rfl (by decide) (by decide) rfl ?_
    refine g_goto C 18 dL_law_1071 rfl ?_
    refine g_sub [1, 2, 3, 0] rfl rfl ?_
    exact H _ _ h
  · replace h := if_f h c83
    refine g_iconst C (n := 0) dL_law_510 (by decide) ?_
    cases h
    exact absurd ho (by show ¬ ((0 : Int) = 1); decide)
def fL_512 (xs : Int → Int) (L : Int) (k : Int → V_ → Option (Int × V_)) (i : Int) (v : V_) : Option (Int × V_) :=
  bd_ (fX11_clear 1 v) fun q85 =>
  bd_ (fX12_clear 814 q85.2) fun q86 =>
  if q85.1 = q86.1 then (
    lt_ (wr_ (i + 6)) fun y88 =>
    k y88 q86.2)
  else (
    some (0, q86.2))
theorem tL_512 {E : En_} {p : Program} {l : Launch} {e : Env} {s : State} {m : MethodId} {below : List Frame} {meth : Method} {c : Code} {b L : Nat} {xs : Nat → Int32} (C : MC_ E p s m c code 4 "TraceDeskLaw") (hr : meth.sig.returnType = ret) (hlk : meth.locks = false) (hB : E.1 + 1 = s.heap.size) (hX : SX_ E b L xs s) (hC : Cl_ E.2.2.2.2.2 873) (hG : Pg_ E.2.2.2.2.2) (T1 : E.2.2.2.2.2 1 ∧ ty_ 1 = 11 ∧ ln_ 1 = 0) (T2 : E.2.2.2.2.2 814 ∧ ty_ 814 = 12 ∧ ln_ 814 = 0) {out : Int × V_} (ho : out.1 = 1) (k : Int → V_ → Option (Int × V_)) (H : ∀ (i : Int) (v : V_), k i v = some out → G_ E p l e room_1 s m #[.ref b] below meth c 4 1 (lw_Z below #[.ref b] s) 18 [(0, (3, (b : Int))), (1, (2, 1)), (2, (2, 814)), (3, (0, i))] [] v 873) (i : Int) (v : V_) (h : fL_512 (fun j => (xs j.toNat).toInt) (L : Int) k i v = some out) : G_ E p l e room_1 s m #[.ref b] below meth c 4 1 (lw_Z below #[.ref b] s) 512 [(0, (3, (b : Int))), (1, (2, 1)), (2, (2, 814)), (3, (0, i))] [] v 873 := by
  rw [fL_512] at h
  refine g_aload_n C (f := 1) dL_law_512 1 rfl ?_
  obtain ⟨q85, eq85, h⟩ := bd_e h
  refine g_cVk C [] (cX11_clear_ok l hC hG T1 eq85) okX11 T1.2.1 (rg_ hC T1.1) km_L_66 cv_X11_clear rfl (by decide) rfl rfl (by decide) ⟨by decide, by decide⟩ (Nat.le_of_ble_eq_true rfl) dL_law_513 ?_
  refine g_aload_n C (f := 2) dL_law_516 2 rfl ?_
  obtain ⟨q86, eq86, h⟩ := bd_e h
  refine g_cVk C [] (cX12_clear_ok l hC T2 eq86) okX12 T2.2.1 (rg_ hC T2.1) km_L_69 cv_X12_clear rfl (by decide) rfl rfl (by decide) ⟨by decide, by decide⟩ (Nat.le_of_ble_eq_true rfl) dL_law_517 ?_
  refine g_icmp_eq C 1068 dL_law_520 rfl (fun c87 => ?_) (fun c87 => ?_)
  · replace h := if_t h c87
    obtain ⟨y88, ey88, h⟩ := lt_e h
    refine g_iincx C (ls' := [(3, (0, y88)), (0, (3, (b : Int))), (1, (2, 1)), (2, (2, 814))]) ey88 dL_law_1068 3 rfl (by decide) (by decide) rfl ?_
    refine g_goto C 18 dL_law_1071 rfl ?_
    refine g_sub [1, 2, 3, 0] rfl rfl ?_
    exact H _ _ h
  · replace h := if_f h c87
    refine g_iconst C (n := 0) dL_law_523 (by decide) ?_
    cases h
    exact absurd ho (by show ¬ ((0 : Int) = 1); decide)
def fL_525 (xs : Int → Int) (L : Int) (k : Int → V_ → Option (Int × V_)) (i : Int) (v : V_) : Option (Int × V_) :=
  ck_ (0 ≤ wr_ (i + 1) ∧ wr_ (i + 1) < L) (
  if (xs (wr_ (i + 1))) = 0 then (
    bd_ (fX11_rename 1 0 v) fun q91 =>
    ck_ (0 ≤ wr_ (i + 1) ∧ wr_ (i + 1) < L) (
    if (xs (wr_ (i + 1))) = 0 then (
      bd_ (fX12_rename 814 0 q91.2) fun q94 =>
      if q91.1 = q94.1 then (
        lt_ (wr_ (i + 6)) fun y96 =>
        k y96 q94.2)
      else (
        some (0, q94.2)))
    else (
      bd_ (fX12_rename 814 1 q91.2) fun q97 =>
      if q91.1 = q97.1 then (
        lt_ (wr_ (i + 6)) fun y99 =>
        k y99 q97.2)
      else (
        some (0, q97.2)))))
  else (
    bd_ (fX11_rename 1 1 v) fun q100 =>
    ck_ (0 ≤ wr_ (i + 1) ∧ wr_ (i + 1) < L) (
    if (xs (wr_ (i + 1))) = 0 then (
      bd_ (fX12_rename 814 0 q100.2) fun q103 =>
      if q100.1 = q103.1 then (
        lt_ (wr_ (i + 6)) fun y105 =>
        k y105 q103.2)
      else (
        some (0, q103.2)))
    else (
      bd_ (fX12_rename 814 1 q100.2) fun q106 =>
      if q100.1 = q106.1 then (
        lt_ (wr_ (i + 6)) fun y108 =>
        k y108 q106.2)
      else (
        some (0, q106.2))))))
theorem tL_525 {E : En_} {p : Program} {l : Launch} {e : Env} {s : State} {m : MethodId} {below : List Frame} {meth : Method} {c : Code} {b L : Nat} {xs : Nat → Int32} (C : MC_ E p s m c code 4 "TraceDeskLaw") (hr : meth.sig.returnType = ret) (hlk : meth.locks = false) (hB : E.1 + 1 = s.heap.size) (hX : SX_ E b L xs s) (hC : Cl_ E.2.2.2.2.2 873) (hG : Pg_ E.2.2.2.2.2) (T1 : E.2.2.2.2.2 1 ∧ ty_ 1 = 11 ∧ ln_ 1 = 0) (T2 : E.2.2.2.2.2 814 ∧ ty_ 814 = 12 ∧ ln_ 814 = 0) {out : Int × V_} (ho : out.1 = 1) (k : Int → V_ → Option (Int × V_)) (H : ∀ (i : Int) (v : V_), k i v = some out → G_ E p l e room_1 s m #[.ref b] below meth c 4 1 (lw_Z below #[.ref b] s) 18 [(0, (3, (b : Int))), (1, (2, 1)), (2, (2, 814)), (3, (0, i))] [] v 873) (i : Int) (v : V_) (h : fL_525 (fun j => (xs j.toNat).toInt) (L : Int) k i v = some out) : G_ E p l e room_1 s m #[.ref b] below meth c 4 1 (lw_Z below #[.ref b] s) 525 [(0, (3, (b : Int))), (1, (2, 1)), (2, (2, 814)), (3, (0, i))] [] v 873 := by
  rw [fL_525] at h
  refine g_aload_n C (f := 1) dL_law_525 1 rfl ?_
  refine g_aload3 C (f := 0) dL_law_526 0 rfl ?_
  refine g_iload_n C (f := 3) dL_law_527 3 rfl ?_
  refine g_iconst C (n := 1) dL_law_528 (by decide) ?_
  refine g_iadd C dL_law_529 ?_
  obtain ⟨c89, h⟩ := ck_e h
  refine g_xld C hX c89 dL_law_530 ?_
  refine g_if_eq C 538 dL_law_531 rfl (fun c90 => ?_) (fun c90 => ?_)
  · replace h := if_t h c90
    refine g_iconst C (n := 0) dL_law_538 (by decide) ?_
    obtain ⟨q91, eq91, h⟩ := bd_e h
    refine g_cVk C [(0, 0)] (cX11_rename_ok l hC hG T1 eq91) okX11 T1.2.1 (rg_ hC T1.1) km_L_70 cv_X11_rename rfl (by decide) rfl rfl (by decide) ⟨by decide, by decide⟩ (Nat.le_of_ble_eq_true rfl) dL_law_539 ?_
    refine g_aload_n C (f := 2) dL_law_542 2 rfl ?_
    refine g_aload3 C (f := 0) dL_law_543 0 rfl ?_
    refine g_iload_n C (f := 3) dL_law_544 3 rfl ?_
    refine g_iconst C (n := 1) dL_law_545 (by decide) ?_
    refine g_iadd C dL_law_546 ?_
    obtain ⟨c92, h⟩ := ck_e h
    refine g_xld C hX c92 dL_law_547 ?_
    refine g_if_eq C 555 dL_law_548 rfl (fun c93 => ?_) (fun c93 => ?_)
    · replace h := if_t h c93
      refine g_iconst C (n := 0) dL_law_555 (by decide) ?_
      obtain ⟨q94, eq94, h⟩ := bd_e h
      refine g_cVk C [(0, 0)] (cX12_rename_ok l hC T2 eq94) okX12 T2.2.1 (rg_ hC T2.1) km_L_74 cv_X12_rename rfl (by decide) rfl rfl (by decide) ⟨by decide, by decide⟩ (Nat.le_of_ble_eq_true rfl) dL_law_556 ?_
      refine g_icmp_eq C 1068 dL_law_559 rfl (fun c95 => ?_) (fun c95 => ?_)
      · replace h := if_t h c95
        obtain ⟨y96, ey96, h⟩ := lt_e h
        refine g_iincx C (ls' := [(3, (0, y96)), (0, (3, (b : Int))), (1, (2, 1)), (2, (2, 814))]) ey96 dL_law_1068 3 rfl (by decide) (by decide) rfl ?_
        refine g_goto C 18 dL_law_1071 rfl ?_
        refine g_sub [1, 2, 3, 0] rfl rfl ?_
        exact H _ _ h
      · replace h := if_f h c95
        refine g_iconst C (n := 0) dL_law_562 (by decide) ?_
        cases h
        exact absurd ho (by show ¬ ((0 : Int) = 1); decide)
    · replace h := if_f h c93
      refine g_iconst C (n := 1) dL_law_551 (by decide) ?_
      refine g_goto C 556 dL_law_552 rfl ?_
      obtain ⟨q97, eq97, h⟩ := bd_e h
      refine g_cVk C [(0, 1)] (cX12_rename_ok l hC T2 eq97) okX12 T2.2.1 (rg_ hC T2.1) km_L_74 cv_X12_rename rfl (by decide) rfl rfl (by decide) ⟨by decide, by decide⟩ (Nat.le_of_ble_eq_true rfl) dL_law_556 ?_
      refine g_icmp_eq C 1068 dL_law_559 rfl (fun c98 => ?_) (fun c98 => ?_)
      · replace h := if_t h c98
        obtain ⟨y99, ey99, h⟩ := lt_e h
        refine g_iincx C (ls' := [(3, (0, y99)), (0, (3, (b : Int))), (1, (2, 1)), (2, (2, 814))]) ey99 dL_law_1068 3 rfl (by decide) (by decide) rfl ?_
        refine g_goto C 18 dL_law_1071 rfl ?_
        refine g_sub [1, 2, 3, 0] rfl rfl ?_
        exact H _ _ h
      · replace h := if_f h c98
        refine g_iconst C (n := 0) dL_law_562 (by decide) ?_
        cases h
        exact absurd ho (by show ¬ ((0 : Int) = 1); decide)
  · replace h := if_f h c90
    refine g_iconst C (n := 1) dL_law_534 (by decide) ?_
    refine g_goto C 539 dL_law_535 rfl ?_
    obtain ⟨q100, eq100, h⟩ := bd_e h
    refine g_cVk C [(0, 1)] (cX11_rename_ok l hC hG T1 eq100) okX11 T1.2.1 (rg_ hC T1.1) km_L_70 cv_X11_rename rfl (by decide) rfl rfl (by decide) ⟨by decide, by decide⟩ (Nat.le_of_ble_eq_true rfl) dL_law_539 ?_
    refine g_aload_n C (f := 2) dL_law_542 2 rfl ?_
    refine g_aload3 C (f := 0) dL_law_543 0 rfl ?_
    refine g_iload_n C (f := 3) dL_law_544 3 rfl ?_
    refine g_iconst C (n := 1) dL_law_545 (by decide) ?_
    refine g_iadd C dL_law_546 ?_
    obtain ⟨c101, h⟩ := ck_e h
    refine g_xld C hX c101 dL_law_547 ?_
    refine g_if_eq C 555 dL_law_548 rfl (fun c102 => ?_) (fun c102 => ?_)
    · replace h := if_t h c102
      refine g_iconst C (n := 0) dL_law_555 (by decide) ?_
      obtain ⟨q103, eq103, h⟩ := bd_e h
      refine g_cVk C [(0, 0)] (cX12_rename_ok l hC T2 eq103) okX12 T2.2.1 (rg_ hC T2.1) km_L_74 cv_X12_rename rfl (by decide) rfl rfl (by decide) ⟨by decide, by decide⟩ (Nat.le_of_ble_eq_true rfl) dL_law_556 ?_
      refine g_icmp_eq C 1068 dL_law_559 rfl (fun c104 => ?_) (fun c104 => ?_)
      · replace h := if_t h c104
        obtain ⟨y105, ey105, h⟩ := lt_e h
        refine g_iincx C (ls' := [(3, (0, y105)), (0, (3, (b : Int))), (1, (2, 1)), (2, (2, 814))]) ey105 dL_law_1068 3 rfl (by decide) (by decide) rfl ?_
        refine g_goto C 18 dL_law_1071 rfl ?_
        refine g_sub [1, 2, 3, 0] rfl rfl ?_
        exact H _ _ h
      · replace h := if_f h c104
        refine g_iconst C (n := 0) dL_law_562 (by decide) ?_
        cases h
        exact absurd ho (by show ¬ ((0 : Int) = 1); decide)
    · replace h := if_f h c102
      refine g_iconst C (n := 1) dL_law_551 (by decide) ?_
      refine g_goto C 556 dL_law_552 rfl ?_
      obtain ⟨q106, eq106, h⟩ := bd_e h
      refine g_cVk C [(0, 1)] (cX12_rename_ok l hC T2 eq106) okX12 T2.2.1 (rg_ hC T2.1) km_L_74 cv_X12_rename rfl (by decide) rfl rfl (by decide) ⟨by decide, by decide⟩ (Nat.le_of_ble_eq_true rfl) dL_law_556 ?_
      refine g_icmp_eq C 1068 dL_law_559 rfl (fun c107 => ?_) (fun c107 => ?_)
      · replace h := if_t h c107
        obtain ⟨y108, ey108, h⟩ := lt_e h
        refine g_iincx C (ls' := [(3, (0, y108)), (0, (3, (b : Int))), (1, (2, 1)), (2, (2, 814))]) ey108 dL_law_1068 3 rfl (by decide) (by decide) rfl ?_
        refine g_goto C 18 dL_law_1071 rfl ?_
        refine g_sub [1, 2, 3, 0] rfl rfl ?_
        exact H _ _ h
      · replace h := if_f h c107
        refine g_iconst C (n := 0) dL_law_562 (by decide) ?_
        cases h
        exact absurd ho (by show ¬ ((0 : Int) = 1); decide)
def fL_564 (xs : Int → Int) (L : Int) (k : Int → V_ → Option (Int × V_)) (i : Int) (v : V_) : Option (Int × V_) :=
  ck_ (0 ≤ wr_ (i + 1) ∧ wr_ (i + 1) < L) (
  ck_ (0 ≤ wr_ (i + 2) ∧ wr_ (i + 2) < L) (
  ck_ (0 ≤ wr_ (i + 3) ∧ wr_ (i + 3) < L) (
  bd_ (fX11_units 1 (xs (wr_ (i + 1))) (xs (wr_ (i + 2))) (xs (wr_ (i + 3))) v) fun q112 =>
  ck_ (0 ≤ wr_ (i + 1) ∧ wr_ (i + 1) < L) (
  ck_ (0 ≤ wr_ (i + 2) ∧ wr_ (i + 2) < L) (
  ck_ (0 ≤ wr_ (i + 3) ∧ wr_ (i + 3) < L) (
  bd_ (fX12_units 814 (xs (wr_ (i + 1))) (xs (wr_ (i + 2))) (xs (wr_ (i + 3))) q112.2) fun q116 =>
  if q112.1 = q116.1 then (
    lt_ (wr_ (i + 6)) fun y118 =>
    k y118 q116.2)
  else (
    some (0, q116.2))))))))
theorem tL_564 {E : En_} {p : Program} {l : Launch} {e : Env} {s : State} {m : MethodId} {below : List Frame} {meth : Method} {c : Code} {b L : Nat} {xs : Nat → Int32} (C : MC_ E p s m c code 4 "TraceDeskLaw") (hr : meth.sig.returnType = ret) (hlk : meth.locks = false) (hB : E.1 + 1 = s.heap.size) (hX : SX_ E b L xs s) (hC : Cl_ E.2.2.2.2.2 873) (hG : Pg_ E.2.2.2.2.2) (T1 : E.2.2.2.2.2 1 ∧ ty_ 1 = 11 ∧ ln_ 1 = 0) (T2 : E.2.2.2.2.2 814 ∧ ty_ 814 = 12 ∧ ln_ 814 = 0) {out : Int × V_} (ho : out.1 = 1) (k : Int → V_ → Option (Int × V_)) (H : ∀ (i : Int) (v : V_), k i v = some out → G_ E p l e room_1 s m #[.ref b] below meth c 4 1 (lw_Z below #[.ref b] s) 18 [(0, (3, (b : Int))), (1, (2, 1)), (2, (2, 814)), (3, (0, i))] [] v 873) (i : Int) (v : V_) (h : fL_564 (fun j => (xs j.toNat).toInt) (L : Int) k i v = some out) : G_ E p l e room_1 s m #[.ref b] below meth c 4 1 (lw_Z below #[.ref b] s) 564 [(0, (3, (b : Int))), (1, (2, 1)), (2, (2, 814)), (3, (0, i))] [] v 873 := by
  rw [fL_564] at h
  refine g_aload_n C (f := 1) dL_law_564 1 rfl ?_
  refine g_aload3 C (f := 0) dL_law_565 0 rfl ?_
  refine g_iload_n C (f := 3) dL_law_566 3 rfl ?_
  refine g_iconst C (n := 1) dL_law_567 (by decide) ?_
  refine g_iadd C dL_law_568 ?_
  obtain ⟨c109, h⟩ := ck_e h
  refine g_xld C hX c109 dL_law_569 ?_
  refine g_aload3 C (f := 0) dL_law_570 0 rfl ?_
  refine g_iload_n C (f := 3) dL_law_571 3 rfl ?_
  refine g_iconst C (n := 2) dL_law_572 (by decide) ?_
  refine g_iadd C dL_law_573 ?_
  obtain ⟨c110, h⟩ := ck_e h
  refine g_xld C hX c110 dL_law_574 ?_
  refine g_aload3 C (f := 0) dL_law_575 0 rfl ?_
  refine g_iload_n C (f := 3) dL_law_576 3 rfl ?_
  refine g_iconst C (n := 3) dL_law_577 (by decide) ?_
  refine g_iadd C dL_law_578 ?_
  obtain ⟨c111, h⟩ := ck_e h
  refine g_xld C hX c111 dL_law_579 ?_
  obtain ⟨q112, eq112, h⟩ := bd_e h
  refine g_cVk C [(0, (fun j => (xs j.toNat).toInt) (wr_ (i + 1))), (0, (fun j => (xs j.toNat).toInt) (wr_ (i + 2))), (0, (fun j => (xs j.toNat).toInt) (wr_ (i + 3)))] (cX11_units_ok l hC hG T1 eq112) okX11 T1.2.1 (rg_ hC T1.1) km_L_75 cv_X11_units rfl (by decide) rfl rfl (by decide) ⟨by decide, by decide⟩ (Nat.le_of_ble_eq_true rfl) dL_law_580 ?_
  refine g_aload_n C (f := 2) dL_law_583 2 rfl ?_
  refine g_aload3 C (f := 0) dL_law_584 0 rfl ?_
  refine g_iload_n C (f := 3) dL_law_585 3 rfl ?_
  refine g_iconst C (n := 1) dL_law_586 (by decide) ?_
  refine g_iadd C dL_law_587 ?_
  obtain ⟨c113, h⟩ := ck_e h
  refine g_xld C hX c113 dL_law_588 ?_
  refine g_aload3 C (f := 0) dL_law_589 0 rfl ?_
  refine g_iload_n C (f := 3) dL_law_590 3 rfl ?_
  refine g_iconst C (n := 2) dL_law_591 (by decide) ?_
  refine g_iadd C dL_law_592 ?_
  obtain ⟨c114, h⟩ := ck_e h
  refine g_xld C hX c114 dL_law_593 ?_
  refine g_aload3 C (f := 0) dL_law_594 0 rfl ?_
  refine g_iload_n C (f := 3) dL_law_595 3 rfl ?_
  refine g_iconst C (n := 3) dL_law_596 (by decide) ?_
  refine g_iadd C dL_law_597 ?_
  obtain ⟨c115, h⟩ := ck_e h
  refine g_xld C hX c115 dL_law_598 ?_
  obtain ⟨q116, eq116, h⟩ := bd_e h
  refine g_cVk C [(0, (fun j => (xs j.toNat).toInt) (wr_ (i + 1))), (0, (fun j => (xs j.toNat).toInt) (wr_ (i + 2))), (0, (fun j => (xs j.toNat).toInt) (wr_ (i + 3)))] (cX12_units_ok l hC T2 eq116) okX12 T2.2.1 (rg_ hC T2.1) km_L_79 cv_X12_units rfl (by decide) rfl rfl (by decide) ⟨by decide, by decide⟩ (Nat.le_of_ble_eq_true rfl) dL_law_599 ?_
  refine g_icmp_eq C 1068 dL_law_602 rfl (fun c117 => ?_) (fun c117 => ?_)
  · replace h := if_t h c117
    obtain ⟨y118, ey118, h⟩ := lt_e h
    refine g_iincx C (ls' := [(3, (0, y118)), (0, (3, (b : Int))), (1, (2, 1)), (2, (2, 814))]) ey118 dL_law_1068 3 rfl (by decide) (by decide) rfl ?_
    refine g_goto C 18 dL_law_1071 rfl ?_
    refine g_sub [1, 2, 3, 0] rfl rfl ?_
    exact H _ _ h
  · replace h := if_f h c117
    refine g_iconst C (n := 0) dL_law_605 (by decide) ?_
    cases h
    exact absurd ho (by show ¬ ((0 : Int) = 1); decide)
def fL_607 (xs : Int → Int) (L : Int) (k : Int → V_ → Option (Int × V_)) (i : Int) (v : V_) : Option (Int × V_) :=
  bd_ (fX11_undo 1 v) fun q119 =>
  bd_ (fX12_undo 814 q119.2) fun q120 =>
  if q119.1 = q120.1 then (
    lt_ (wr_ (i + 6)) fun y122 =>
    k y122 q120.2)
  else (
    some (0, q120.2))
theorem tL_607 {E : En_} {p : Program} {l : Launch} {e : Env} {s : State} {m : MethodId} {below : List Frame} {meth : Method} {c : Code} {b L : Nat} {xs : Nat → Int32} (C : MC_ E p s m c code 4 "TraceDeskLaw") (hr : meth.sig.returnType = ret) (hlk : meth.locks = false) (hB : E.1 + 1 = s.heap.size) (hX : SX_ E b L xs s) (hC : Cl_ E.2.2.2.2.2 873) (hG : Pg_ E.2.2.2.2.2) (T1 : E.2.2.2.2.2 1 ∧ ty_ 1 = 11 ∧ ln_ 1 = 0) (T2 : E.2.2.2.2.2 814 ∧ ty_ 814 = 12 ∧ ln_ 814 = 0) {out : Int × V_} (ho : out.1 = 1) (k : Int → V_ → Option (Int × V_)) (H : ∀ (i : Int) (v : V_), k i v = some out → G_ E p l e room_1 s m #[.ref b] below meth c 4 1 (lw_Z below #[.ref b] s) 18 [(0, (3, (b : Int))), (1, (2, 1)), (2, (2, 814)), (3, (0, i))] [] v 873) (i : Int) (v : V_) (h : fL_607 (fun j => (xs j.toNat).toInt) (L : Int) k i v = some out) : G_ E p l e room_1 s m #[.ref b] below meth c 4 1 (lw_Z below #[.ref b] s) 607 [(0, (3, (b : Int))), (1, (2, 1)), (2, (2, 814)), (3, (0, i))] [] v 873 := by
  rw [fL_607] at h
  refine g_aload_n C (f := 1) dL_law_607 1 rfl ?_
  obtain ⟨q119, eq119, h⟩ := bd_e h
  refine g_cVk C [] (cX11_undo_ok l hC hG T1 eq119) okX11 T1.2.1 (rg_ hC T1.1) km_L_80 cv_X11_undo rfl (by decide) rfl rfl (by decide) ⟨by decide, by decide⟩ (Nat.le_of_ble_eq_true rfl) dL_law_608 ?_
  refine g_aload_n C (f := 2) dL_law_611 2 rfl ?_
  obtain ⟨q120, eq120, h⟩ := bd_e h
  refine g_cVk C [] (cX12_undo_ok l hC T2 eq120) okX12 T2.2.1 (rg_ hC T2.1) km_L_84 cv_X12_undo rfl (by decide) rfl rfl (by decide) ⟨by decide, by decide⟩ (Nat.le_of_ble_eq_true rfl) dL_law_612 ?_
  refine g_icmp_eq C 1068 dL_law_615 rfl (fun c121 => ?_) (fun c121 => ?_)
  · replace h := if_t h c121
    obtain ⟨y122, ey122, h⟩ := lt_e h
    refine g_iincx C (ls' := [(3, (0, y122)), (0, (3, (b : Int))), (1, (2, 1)), (2, (2, 814))]) ey122 dL_law_1068 3 rfl (by decide) (by decide) rfl ?_
    refine g_goto C 18 dL_law_1071 rfl ?_
    refine g_sub [1, 2, 3, 0] rfl rfl ?_
    exact H _ _ h
  · replace h := if_f h c121
    refine g_iconst C (n := 0) dL_law_618 (by decide) ?_
    cases h
    exact absurd ho (by show ¬ ((0 : Int) = 1); decide)
def fL_620 (xs : Int → Int) (L : Int) (k : Int → V_ → Option (Int × V_)) (i : Int) (v : V_) : Option (Int × V_) :=
  bd_ (fX11_traces 1 v) fun q123 =>
  bd_ (fX12_traces 814 q123.2) fun q124 =>
  if q123.1 = q124.1 then (
    lt_ (wr_ (i + 6)) fun y126 =>
    k y126 q124.2)
  else (
    some (0, q124.2))
theorem tL_620 {E : En_} {p : Program} {l : Launch} {e : Env} {s : State} {m : MethodId} {below : List Frame} {meth : Method} {c : Code} {b L : Nat} {xs : Nat → Int32} (C : MC_ E p s m c code 4 "TraceDeskLaw") (hr : meth.sig.returnType = ret) (hlk : meth.locks = false) (hB : E.1 + 1 = s.heap.size) (hX : SX_ E b L xs s) (hC : Cl_ E.2.2.2.2.2 873) (hG : Pg_ E.2.2.2.2.2) (T1 : E.2.2.2.2.2 1 ∧ ty_ 1 = 11 ∧ ln_ 1 = 0) (T2 : E.2.2.2.2.2 814 ∧ ty_ 814 = 12 ∧ ln_ 814 = 0) {out : Int × V_} (ho : out.1 = 1) (k : Int → V_ → Option (Int × V_)) (H : ∀ (i : Int) (v : V_), k i v = some out → G_ E p l e room_1 s m #[.ref b] below meth c 4 1 (lw_Z below #[.ref b] s) 18 [(0, (3, (b : Int))), (1, (2, 1)), (2, (2, 814)), (3, (0, i))] [] v 873) (i : Int) (v : V_) (h : fL_620 (fun j => (xs j.toNat).toInt) (L : Int) k i v = some out) : G_ E p l e room_1 s m #[.ref b] below meth c 4 1 (lw_Z below #[.ref b] s) 620 [(0, (3, (b : Int))), (1, (2, 1)), (2, (2, 814)), (3, (0, i))] [] v 873 := by
  rw [fL_620] at h
  refine g_aload_n C (f := 1) dL_law_620 1 rfl ?_
  obtain ⟨q123, eq123, h⟩ := bd_e h
  refine g_cVk C [] (cX11_traces_ok l hC hG T1 eq123) okX11 T1.2.1 (rg_ hC T1.1) km_L_85 cv_X11_traces rfl (by decide) rfl rfl (by decide) ⟨by decide, by decide⟩ (Nat.le_of_ble_eq_true rfl) dL_law_621 ?_
  refine g_aload_n C (f := 2) dL_law_624 2 rfl ?_
  obtain ⟨q124, eq124, h⟩ := bd_e h
  refine g_cVk C [] (cX12_traces_ok l hC T2 eq124) okX12 T2.2.1 (rg_ hC T2.1) km_L_88 cv_X12_traces rfl (by decide) rfl rfl (by decide) ⟨by decide, by decide⟩ (Nat.le_of_ble_eq_true rfl) dL_law_625 ?_
  refine g_icmp_eq C 1068 dL_law_628 rfl (fun c125 => ?_) (fun c125 => ?_)
  · replace h := if_t h c125
    obtain ⟨y126, ey126, h⟩ := lt_e h
    refine g_iincx C (ls' := [(3, (0, y126)), (0, (3, (b : Int))), (1, (2, 1)), (2, (2, 814))]) ey126 dL_law_1068 3 rfl (by decide) (by decide) rfl ?_
    refine g_goto C 18 dL_law_1071 rfl ?_
    refine g_sub [1, 2, 3, 0] rfl rfl ?_
    exact H _ _ h
  · replace h := if_f h c125
    refine g_iconst C (n := 0) dL_law_631 (by decide) ?_
    cases h
    exact absurd ho (by show ¬ ((0 : Int) = 1); decide)
def fL_633 (xs : Int → Int) (L : Int) (k : Int → V_ → Option (Int × V_)) (i : Int) (v : V_) : Option (Int × V_) :=
  ck_ (0 ≤ wr_ (i + 1) ∧ wr_ (i + 1) < L) (
  ck_ (0 ≤ wr_ (i + 2) ∧ wr_ (i + 2) < L) (
  bd_ (fX11_trace 1 (xs (wr_ (i + 1))) (xs (wr_ (i + 2))) v) fun q129 =>
  ck_ (0 ≤ wr_ (i + 1) ∧ wr_ (i + 1) < L) (
  ck_ (0 ≤ wr_ (i + 2) ∧ wr_ (i + 2) < L) (
  bd_ (fX12_trace 814 (xs (wr_ (i + 1))) (xs (wr_ (i + 2))) q129.2) fun q132 =>
  if q129.1 = q132.1 then (
    lt_ (wr_ (i + 6)) fun y134 =>
    k y134 q132.2)
  else (
    some (0, q132.2))))))
theorem tL_633 {E : En_} {p : Program} {l : Launch} {e : Env} {s : State} {m : MethodId} {below : List Frame} {meth : Method} {c : Code} {b L : Nat} {xs : Nat → Int32} (C : MC_ E p s m c code 4 "TraceDeskLaw") (hr : meth.sig.returnType = ret) (hlk : meth.locks = false) (hB : E.1 + 1 = s.heap.size) (hX : SX_ E b L xs s) (hC : Cl_ E.2.2.2.2.2 873) (hG : Pg_ E.2.2.2.2.2) (T1 : E.2.2.2.2.2 1 ∧ ty_ 1 = 11 ∧ ln_ 1 = 0) (T2 : E.2.2.2.2.2 814 ∧ ty_ 814 = 12 ∧ ln_ 814 = 0) {out : Int × V_} (ho : out.1 = 1) (k : Int → V_ → Option (Int × V_)) (H : ∀ (i : Int) (v : V_), k i v = some out → G_ E p l e room_1 s m #[.ref b] below meth c 4 1 (lw_Z below #[.ref b] s) 18 [(0, (3, (b : Int))), (1, (2, 1)), (2, (2, 814)), (3, (0, i))] [] v 873) (i : Int) (v : V_) (h : fL_633 (fun j => (xs j.toNat).toInt) (L : Int) k i v = some out) : G_ E p l e room_1 s m #[.ref b] below meth c 4 1 (lw_Z below #[.ref b] s) 633 [(0, (3, (b : Int))), (1, (2, 1)), (2, (2, 814)), (3, (0, i))] [] v 873 := by
  rw [fL_633] at h
  refine g_aload_n C (f := 1) dL_law_633 1 rfl ?_
  refine g_aload3 C (f := 0) dL_law_634 0 rfl ?_
  refine g_iload_n C (f := 3) dL_law_635 3 rfl ?_
  refine g_iconst C (n := 1) dL_law_636 (by decide) ?_
  refine g_iadd C dL_law_637 ?_
  obtain ⟨c127, h⟩ := ck_e h
  refine g_xld C hX c127 dL_law_638 ?_
  refine g_aload3 C (f := 0) dL_law_639 0 rfl ?_
  refine g_iload_n C (f := 3) dL_law_640 3 rfl ?_
  refine g_iconst C (n := 2) dL_law_641 (by decide) ?_
  refine g_iadd C dL_law_642 ?_
  obtain ⟨c128, h⟩ := ck_e h
  refine g_xld C hX c128 dL_law_643 ?_
  obtain ⟨q129, eq129, h⟩ := bd_e h
  refine g_cVk C [(0, (fun j => (xs j.toNat).toInt) (wr_ (i + 1))), (0, (fun j => (xs j.toNat).toInt) (wr_ (i + 2)))] (cX11_trace_ok l hC hG T1 eq129) okX11 T1.2.1 (rg_ hC T1.1) km_L_89 cv_X11_trace rfl (by decide) rfl rfl (by decide) ⟨by decide, by decide⟩ (Nat.le_of_ble_eq_true rfl) dL_law_644 ?_
  refine g_aload_n C (f := 2) dL_law_647 2 rfl ?_
  refine g_aload3 C (f := 0) dL_law_648 0 rfl ?_
  refine g_iload_n C (f := 3) dL_law_649 3 rfl ?_
  refine g_iconst C (n := 1) dL_law_650 (by decide) ?_
  refine g_iadd C dL_law_651 ?_
  obtain ⟨c130, h⟩ := ck_e h
  refine g_xld C hX c130 dL_law_652 ?_
  refine g_aload3 C (f := 0) dL_law_653 0 rfl ?_
  refine g_iload_n C (f := 3) dL_law_654 3 rfl ?_
  refine g_iconst C (n := 2) dL_law_655 (by decide) ?_
  refine g_iadd C dL_law_656 ?_
  obtain ⟨c131, h⟩ := ck_e h
  refine g_xld C hX c131 dL_law_657 ?_
  obtain ⟨q132, eq132, h⟩ := bd_e h
  refine g_cVk C [(0, (fun j => (xs j.toNat).toInt) (wr_ (i + 1))), (0, (fun j => (xs j.toNat).toInt) (wr_ (i + 2)))] (cX12_trace_ok l hC T2 eq132) okX12 T2.2.1 (rg_ hC T2.1) km_L_92 cv_X12_trace rfl (by decide) rfl rfl (by decide) ⟨by decide, by decide⟩ (Nat.le_of_ble_eq_true rfl) dL_law_658 ?_
  refine g_icmp_eq C 1068 dL_law_661 rfl (fun c133 => ?_) (fun c133 => ?_)
  · replace h := if_t h c133
    obtain ⟨y134, ey134, h⟩ := lt_e h
    refine g_iincx C (ls' := [(3, (0, y134)), (0, (3, (b : Int))), (1, (2, 1)), (2, (2, 814))]) ey134 dL_law_1068 3 rfl (by decide) (by decide) rfl ?_
    refine g_goto C 18 dL_law_1071 rfl ?_
    refine g_sub [1, 2, 3, 0] rfl rfl ?_
    exact H _ _ h
  · replace h := if_f h c133
    refine g_iconst C (n := 0) dL_law_664 (by decide) ?_
    cases h
    exact absurd ho (by show ¬ ((0 : Int) = 1); decide)
def fL_666 (xs : Int → Int) (L : Int) (k : Int → V_ → Option (Int × V_)) (i : Int) (v : V_) : Option (Int × V_) :=
  ck_ (0 ≤ wr_ (i + 1) ∧ wr_ (i + 1) < L) (
  ck_ (0 ≤ wr_ (i + 2) ∧ wr_ (i + 2) < L) (
  bd_ (fX11_member 1 (xs (wr_ (i + 1))) (xs (wr_ (i + 2))) v) fun q137 =>
  ck_ (0 ≤ wr_ (i + 1) ∧ wr_ (i + 1) < L) (
  ck_ (0 ≤ wr_ (i + 2) ∧ wr_ (i + 2) < L) (
  bd_ (fX12_member 814 (xs (wr_ (i + 1))) (xs (wr_ (i + 2))) q137.2) fun q140 =>
  if q137.1 = q140.1 then (
    lt_ (wr_ (i + 6)) fun y142 =>
    k y142 q140.2)
  else (
    some (0, q140.2))))))
theorem tL_666 {E : En_} {p : Program} {l : Launch} {e : Env} {s : State} {m : MethodId} {below : List Frame} {meth : Method} {c : Code} {b L : Nat} {xs : Nat → Int32} (C : MC_ E p s m c code 4 "TraceDeskLaw") (hr : meth.sig.returnType = ret) (hlk : meth.locks = false) (hB : E.1 + 1 = s.heap.size) (hX : SX_ E b L xs s) (hC : Cl_ E.2.2.2.2.2 873) (hG : Pg_ E.2.2.2.2.2) (T1 : E.2.2.2.2.2 1 ∧ ty_ 1 = 11 ∧ ln_ 1 = 0) (T2 : E.2.2.2.2.2 814 ∧ ty_ 814 = 12 ∧ ln_ 814 = 0) {out : Int × V_} (ho : out.1 = 1) (k : Int → V_ → Option (Int × V_)) (H : ∀ (i : Int) (v : V_), k i v = some out → G_ E p l e room_1 s m #[.ref b] below meth c 4 1 (lw_Z below #[.ref b] s) 18 [(0, (3, (b : Int))), (1, (2, 1)), (2, (2, 814)), (3, (0, i))] [] v 873) (i : Int) (v : V_) (h : fL_666 (fun j => (xs j.toNat).toInt) (L : Int) k i v = some out) : G_ E p l e room_1 s m #[.ref b] below meth c 4 1 (lw_Z below #[.ref b] s) 666 [(0, (3, (b : Int))), (1, (2, 1)), (2, (2, 814)), (3, (0, i))] [] v 873 := by
  rw [fL_666] at h
  refine g_aload_n C (f := 1) dL_law_666 1 rfl ?_
  refine g_aload3 C (f := 0) dL_law_667 0 rfl ?_
  refine g_iload_n C (f := 3) dL_law_668 3 rfl ?_
  refine g_iconst C (n := 1) dL_law_669 (by decide) ?_
  refine g_iadd C dL_law_670 ?_
  obtain ⟨c135, h⟩ := ck_e h
  refine g_xld C hX c135 dL_law_671 ?_
  refine g_aload3 C (f := 0) dL_law_672 0 rfl ?_
  refine g_iload_n C (f := 3) dL_law_673 3 rfl ?_
  refine g_iconst C (n := 2) dL_law_674 (by decide) ?_
  refine g_iadd C dL_law_675 ?_
  obtain ⟨c136, h⟩ := ck_e h
  refine g_xld C hX c136 dL_law_676 ?_
  obtain ⟨q137, eq137, h⟩ := bd_e h
  refine g_cVk C [(0, (fun j => (xs j.toNat).toInt) (wr_ (i + 1))), (0, (fun j => (xs j.toNat).toInt) (wr_ (i + 2)))] (cX11_member_ok l hC hG T1 eq137) okX11 T1.2.1 (rg_ hC T1.1) km_L_93 cv_X11_member rfl (by decide) rfl rfl (by decide) ⟨by decide, by decide⟩ (Nat.le_of_ble_eq_true rfl) dL_law_677 ?_
  refine g_aload_n C (f := 2) dL_law_680 2 rfl ?_
  refine g_aload3 C (f := 0) dL_law_681 0 rfl ?_
  refine g_iload_n C (f := 3) dL_law_682 3 rfl ?_
  refine g_iconst C (n := 1) dL_law_683 (by decide) ?_
  refine g_iadd C dL_law_684 ?_
  obtain ⟨c138, h⟩ := ck_e h
  refine g_xld C hX c138 dL_law_685 ?_
  refine g_aload3 C (f := 0) dL_law_686 0 rfl ?_
  refine g_iload_n C (f := 3) dL_law_687 3 rfl ?_
  refine g_iconst C (n := 2) dL_law_688 (by decide) ?_
  refine g_iadd C dL_law_689 ?_
  obtain ⟨c139, h⟩ := ck_e h
  refine g_xld C hX c139 dL_law_690 ?_
  obtain ⟨q140, eq140, h⟩ := bd_e h
  refine g_cVk C [(0, (fun j => (xs j.toNat).toInt) (wr_ (i + 1))), (0, (fun j => (xs j.toNat).toInt) (wr_ (i + 2)))] (cX12_member_ok l hC T2 eq140) okX12 T2.2.1 (rg_ hC T2.1) km_L_96 cv_X12_member rfl (by decide) rfl rfl (by decide) ⟨by decide, by decide⟩ (Nat.le_of_ble_eq_true rfl) dL_law_691 ?_
  refine g_icmp_eq C 1068 dL_law_694 rfl (fun c141 => ?_) (fun c141 => ?_)
  · replace h := if_t h c141
    obtain ⟨y142, ey142, h⟩ := lt_e h
    refine g_iincx C (ls' := [(3, (0, y142)), (0, (3, (b : Int))), (1, (2, 1)), (2, (2, 814))]) ey142 dL_law_1068 3 rfl (by decide) (by decide) rfl ?_
    refine g_goto C 18 dL_law_1071 rfl ?_
    refine g_sub [1, 2, 3, 0] rfl rfl ?_
    exact H _ _ h
  · replace h := if_f h c141
    refine g_iconst C (n := 0) dL_law_697 (by decide) ?_
    cases h
    exact absurd ho (by show ¬ ((0 : Int) = 1); decide)
def fL_699 (xs : Int → Int) (L : Int) (k : Int → V_ → Option (Int × V_)) (i : Int) (v : V_) : Option (Int × V_) :=
  ck_ (0 ≤ wr_ (i + 1) ∧ wr_ (i + 1) < L) (
  ck_ (0 ≤ wr_ (i + 2) ∧ wr_ (i + 2) < L) (
  ck_ (0 ≤ wr_ (i + 3) ∧ wr_ (i + 3) < L) (
  bd_ (fX11_item 1 (xs (wr_ (i + 1))) (xs (wr_ (i + 2))) (xs (wr_ (i + 3))) v) fun q146 =>
  ck_ (0 ≤ wr_ (i + 1) ∧ wr_ (i + 1) < L) (
  ck_ (0 ≤ wr_ (i + 2) ∧ wr_ (i + 2) < L) (
  ck_ (0 ≤ wr_ (i + 3) ∧ wr_ (i + 3) < L) (
  bd_ (fX12_item 814 (xs (wr_ (i + 1))) (xs (wr_ (i + 2))) (xs (wr_ (i + 3))) q146.2) fun q150 =>
  if q146.1 = q150.1 then (
    lt_ (wr_ (i + 6)) fun y152 =>
    k y152 q150.2)
  else (
    some (0, q150.2))))))))
theorem tL_699 {E : En_} {p : Program} {l : Launch} {e : Env} {s : State} {m : MethodId} {below : List Frame} {meth : Method} {c : Code} {b L : Nat} {xs : Nat → Int32} (C : MC_ E p s m c code 4 "TraceDeskLaw") (hr : meth.sig.returnType = ret) (hlk : meth.locks = false) (hB : E.1 + 1 = s.heap.size) (hX : SX_ E b L xs s) (hC : Cl_ E.2.2.2.2.2 873) (hG : Pg_ E.2.2.2.2.2) (T1 : E.2.2.2.2.2 1 ∧ ty_ 1 = 11 ∧ ln_ 1 = 0) (T2 : E.2.2.2.2.2 814 ∧ ty_ 814 = 12 ∧ ln_ 814 = 0) {out : Int × V_} (ho : out.1 = 1) (k : Int → V_ → Option (Int × V_)) (H : ∀ (i : Int) (v : V_), k i v = some out → G_ E p l e room_1 s m #[.ref b] below meth c 4 1 (lw_Z below #[.ref b] s) 18 [(0, (3, (b : Int))), (1, (2, 1)), (2, (2, 814)), (3, (0, i))] [] v 873) (i : Int) (v : V_) (h : fL_699 (fun j => (xs j.toNat).toInt) (L : Int) k i v = some out) : G_ E p l e room_1 s m #[.ref b] below meth c 4 1 (lw_Z below #[.ref b] s) 699 [(0, (3, (b : Int))), (1, (2, 1)), (2, (2, 814)), (3, (0, i))] [] v 873 := by
  rw [fL_699] at h
  refine g_aload_n C (f := 1) dL_law_699 1 rfl ?_
  refine g_aload3 C (f := 0) dL_law_700 0 rfl ?_
  refine g_iload_n C (f := 3) dL_law_701 3 rfl ?_
  refine g_iconst C (n := 1) dL_law_702 (by decide) ?_
  refine g_iadd C dL_law_703 ?_
  obtain ⟨c143, h⟩ := ck_e h
  refine g_xld C hX c143 dL_law_704 ?_
  refine g_aload3 C (f := 0) dL_law_705 0 rfl ?_
  refine g_iload_n C (f := 3) dL_law_706 3 rfl ?_
  refine g_iconst C (n := 2) dL_law_707 (by decide) ?_
  refine g_iadd C dL_law_708 ?_
  obtain ⟨c144, h⟩ := ck_e h
  refine g_xld C hX c144 dL_law_709 ?_
  refine g_aload3 C (f := 0) dL_law_710 0 rfl ?_
  refine g_iload_n C (f := 3) dL_law_711 3 rfl ?_
  refine g_iconst C (n := 3) dL_law_712 (by decide) ?_
  refine g_iadd C dL_law_713 ?_
  obtain ⟨c145, h⟩ := ck_e h
  refine g_xld C hX c145 dL_law_714 ?_
  obtain ⟨q146, eq146, h⟩ := bd_e h
  refine g_cVk C [(0, (fun j => (xs j.toNat).toInt) (wr_ (i + 1))), (0, (fun j => (xs j.toNat).toInt) (wr_ (i + 2))), (0, (fun j => (xs j.toNat).toInt) (wr_ (i + 3)))] (cX11_item_ok l hC hG T1 eq146) okX11 T1.2.1 (rg_ hC T1.1) km_L_97 cv_X11_item rfl (by decide) rfl rfl (by decide) ⟨by decide, by decide⟩ (Nat.le_of_ble_eq_true rfl) dL_law_715 ?_
  refine g_aload_n C (f := 2) dL_law_718 2 rfl ?_
  refine g_aload3 C (f := 0) dL_law_719 0 rfl ?_
  refine g_iload_n C (f := 3) dL_law_720 3 rfl ?_
  refine g_iconst C (n := 1) dL_law_721 (by decide) ?_
  refine g_iadd C dL_law_722 ?_
  obtain ⟨c147, h⟩ := ck_e h
  refine g_xld C hX c147 dL_law_723 ?_
  refine g_aload3 C (f := 0) dL_law_724 0 rfl ?_
  refine g_iload_n C (f := 3) dL_law_725 3 rfl ?_
  refine g_iconst C (n := 2) dL_law_726 (by decide) ?_
  refine g_iadd C dL_law_727 ?_
  obtain ⟨c148, h⟩ := ck_e h
  refine g_xld C hX c148 dL_law_728 ?_
  refine g_aload3 C (f := 0) dL_law_729 0 rfl ?_
  refine g_iload_n C (f := 3) dL_law_730 3 rfl ?_
  refine g_iconst C (n := 3) dL_law_731 (by decide) ?_
  refine g_iadd C dL_law_732 ?_
  obtain ⟨c149, h⟩ := ck_e h
  refine g_xld C hX c149 dL_law_733 ?_
  obtain ⟨q150, eq150, h⟩ := bd_e h
  refine g_cVk C [(0, (fun j => (xs j.toNat).toInt) (wr_ (i + 1))), (0, (fun j => (xs j.toNat).toInt) (wr_ (i + 2))), (0, (fun j => (xs j.toNat).toInt) (wr_ (i + 3)))] (cX12_item_ok l hC T2 eq150) okX12 T2.2.1 (rg_ hC T2.1) km_L_101 cv_X12_item rfl (by decide) rfl rfl (by decide) ⟨by decide, by decide⟩ (Nat.le_of_ble_eq_true rfl) dL_law_734 ?_
  refine g_icmp_eq C 1068 dL_law_737 rfl (fun c151 => ?_) (fun c151 => ?_)
  · replace h := if_t h c151
    obtain ⟨y152, ey152, h⟩ := lt_e h
    refine g_iincx C (ls' := [(3, (0, y152)), (0, (3, (b : Int))), (1, (2, 1)), (2, (2, 814))]) ey152 dL_law_1068 3 rfl (by decide) (by decide) rfl ?_
    refine g_goto C 18 dL_law_1071 rfl ?_
    refine g_sub [1, 2, 3, 0] rfl rfl ?_
    exact H _ _ h
  · replace h := if_f h c151
    refine g_iconst C (n := 0) dL_law_740 (by decide) ?_
    cases h
    exact absurd ho (by show ¬ ((0 : Int) = 1); decide)
def fL_742 (xs : Int → Int) (L : Int) (k : Int → V_ → Option (Int × V_)) (i : Int) (v : V_) : Option (Int × V_) :=
  ck_ (0 ≤ wr_ (i + 1) ∧ wr_ (i + 1) < L) (
  ck_ (0 ≤ wr_ (i + 2) ∧ wr_ (i + 2) < L) (
  ck_ (0 ≤ wr_ (i + 3) ∧ wr_ (i + 3) < L) (
  bd_ (fX11_needs 1 (xs (wr_ (i + 1))) (xs (wr_ (i + 2))) (xs (wr_ (i + 3))) v) fun q156 =>
  ck_ (0 ≤ wr_ (i + 1) ∧ wr_ (i + 1) < L) (
  ck_ (0 ≤ wr_ (i + 2) ∧ wr_ (i + 2) < L) (
  ck_ (0 ≤ wr_ (i + 3) ∧ wr_ (i + 3) < L) (
  bd_ (fX12_needs 814 (xs (wr_ (i + 1))) (xs (wr_ (i + 2))) (xs (wr_ (i + 3))) q156.2) fun q160 =>
  if q156.1 = q160.1 then (
    lt_ (wr_ (i + 6)) fun y162 =>
    k y162 q160.2)
  else (
    some (0, q160.2))))))))
theorem tL_742 {E : En_} {p : Program} {l : Launch} {e : Env} {s : State} {m : MethodId} {below : List Frame} {meth : Method} {c : Code} {b L : Nat} {xs : Nat → Int32} (C : MC_ E p s m c code 4 "TraceDeskLaw") (hr : meth.sig.returnType = ret) (hlk : meth.locks = false) (hB : E.1 + 1 = s.heap.size) (hX : SX_ E b L xs s) (hC : Cl_ E.2.2.2.2.2 873) (hG : Pg_ E.2.2.2.2.2) (T1 : E.2.2.2.2.2 1 ∧ ty_ 1 = 11 ∧ ln_ 1 = 0) (T2 : E.2.2.2.2.2 814 ∧ ty_ 814 = 12 ∧ ln_ 814 = 0) {out : Int × V_} (ho : out.1 = 1) (k : Int → V_ → Option (Int × V_)) (H : ∀ (i : Int) (v : V_), k i v = some out → G_ E p l e room_1 s m #[.ref b] below meth c 4 1 (lw_Z below #[.ref b] s) 18 [(0, (3, (b : Int))), (1, (2, 1)), (2, (2, 814)), (3, (0, i))] [] v 873) (i : Int) (v : V_) (h : fL_742 (fun j => (xs j.toNat).toInt) (L : Int) k i v = some out) : G_ E p l e room_1 s m #[.ref b] below meth c 4 1 (lw_Z below #[.ref b] s) 742 [(0, (3, (b : Int))), (1, (2, 1)), (2, (2, 814)), (3, (0, i))] [] v 873 := by
  rw [fL_742] at h
  refine g_aload_n C (f := 1) dL_law_742 1 rfl ?_
  refine g_aload3 C (f := 0) dL_law_743 0 rfl ?_
  refine g_iload_n C (f := 3) dL_law_744 3 rfl ?_
  refine g_iconst C (n := 1) dL_law_745 (by decide) ?_
  refine g_iadd C dL_law_746 ?_
  obtain ⟨c153, h⟩ := ck_e h
  refine g_xld C hX c153 dL_law_747 ?_
  refine g_aload3 C (f := 0) dL_law_748 0 rfl ?_
  refine g_iload_n C (f := 3) dL_law_749 3 rfl ?_
  refine g_iconst C (n := 2) dL_law_750 (by decide) ?_
  refine g_iadd C dL_law_751 ?_
  obtain ⟨c154, h⟩ := ck_e h
  refine g_xld C hX c154 dL_law_752 ?_
  refine g_aload3 C (f := 0) dL_law_753 0 rfl ?_
  refine g_iload_n C (f := 3) dL_law_754 3 rfl ?_
  refine g_iconst C (n := 3) dL_law_755 (by decide) ?_
  refine g_iadd C dL_law_756 ?_
  obtain ⟨c155, h⟩ := ck_e h
  refine g_xld C hX c155 dL_law_757 ?_
  obtain ⟨q156, eq156, h⟩ := bd_e h
  refine g_cVk C [(0, (fun j => (xs j.toNat).toInt) (wr_ (i + 1))), (0, (fun j => (xs j.toNat).toInt) (wr_ (i + 2))), (0, (fun j => (xs j.toNat).toInt) (wr_ (i + 3)))] (cX11_needs_ok l hC hG T1 eq156) okX11 T1.2.1 (rg_ hC T1.1) km_L_102 cv_X11_needs rfl (by decide) rfl rfl (by decide) ⟨by decide, by decide⟩ (Nat.le_of_ble_eq_true rfl) dL_law_758 ?_
  refine g_aload_n C (f := 2) dL_law_761 2 rfl ?_
  refine g_aload3 C (f := 0) dL_law_762 0 rfl ?_
  refine g_iload_n C (f := 3) dL_law_763 3 rfl ?_
  refine g_iconst C (n := 1) dL_law_764 (by decide) ?_
  refine g_iadd C dL_law_765 ?_
  obtain ⟨c157, h⟩ := ck_e h
  refine g_xld C hX c157 dL_law_766 ?_
  refine g_aload3 C (f := 0) dL_law_767 0 rfl ?_
  refine g_iload_n C (f := 3) dL_law_768 3 rfl ?_
  refine g_iconst C (n := 2) dL_law_769 (by decide) ?_
  refine g_iadd C dL_law_770 ?_
  obtain ⟨c158, h⟩ := ck_e h
  refine g_xld C hX c158 dL_law_771 ?_
  refine g_aload3 C (f := 0) dL_law_772 0 rfl ?_
  refine g_iload_n C (f := 3) dL_law_773 3 rfl ?_
  refine g_iconst C (n := 3) dL_law_774 (by decide) ?_
  refine g_iadd C dL_law_775 ?_
  obtain ⟨c159, h⟩ := ck_e h
  refine g_xld C hX c159 dL_law_776 ?_
  obtain ⟨q160, eq160, h⟩ := bd_e h
  refine g_cVk C [(0, (fun j => (xs j.toNat).toInt) (wr_ (i + 1))), (0, (fun j => (xs j.toNat).toInt) (wr_ (i + 2))), (0, (fun j => (xs j.toNat).toInt) (wr_ (i + 3)))] (cX12_needs_ok l hC T2 eq160) okX12 T2.2.1 (rg_ hC T2.1) km_L_105 cv_X12_needs rfl (by decide) rfl rfl (by decide) ⟨by decide, by decide⟩ (Nat.le_of_ble_eq_true rfl) dL_law_777 ?_
  refine g_icmp_eq C 1068 dL_law_780 rfl (fun c161 => ?_) (fun c161 => ?_)
  · replace h := if_t h c161
    obtain ⟨y162, ey162, h⟩ := lt_e h
    refine g_iincx C (ls' := [(3, (0, y162)), (0, (3, (b : Int))), (1, (2, 1)), (2, (2, 814))]) ey162 dL_law_1068 3 rfl (by decide) (by decide) rfl ?_
    refine g_goto C 18 dL_law_1071 rfl ?_
    refine g_sub [1, 2, 3, 0] rfl rfl ?_
    exact H _ _ h
  · replace h := if_f h c161
    refine g_iconst C (n := 0) dL_law_783 (by decide) ?_
    cases h
    exact absurd ho (by show ¬ ((0 : Int) = 1); decide)
def fL_785 (xs : Int → Int) (L : Int) (k : Int → V_ → Option (Int × V_)) (i : Int) (v : V_) : Option (Int × V_) :=
  ck_ (0 ≤ wr_ (i + 1) ∧ wr_ (i + 1) < L) (
  ck_ (0 ≤ wr_ (i + 2) ∧ wr_ (i + 2) < L) (
  ck_ (0 ≤ wr_ (i + 3) ∧ wr_ (i + 3) < L) (
  bd_ (fX11_copied 1 (xs (wr_ (i + 1))) (xs (wr_ (i + 2))) (xs (wr_ (i + 3))) v) fun q166 =>
  ck_ (0 ≤ wr_ (i + 1) ∧ wr_ (i + 1) < L) (
  ck_ (0 ≤ wr_ (i + 2) ∧ wr_ (i + 2) < L) (
  ck_ (0 ≤ wr_ (i + 3) ∧ wr_ (i + 3) < L) (
  bd_ (fX12_copied 814 (xs (wr_ (i + 1))) (xs (wr_ (i + 2))) (xs (wr_ (i + 3))) q166.2) fun q170 =>
  if q166.1 = q170.1 then (
    lt_ (wr_ (i + 6)) fun y172 =>
    k y172 q170.2)
  else (
    some (0, q170.2))))))))
theorem tL_785 {E : En_} {p : Program} {l : Launch} {e : Env} {s : State} {m : MethodId} {below : List Frame} {meth : Method} {c : Code} {b L : Nat} {xs : Nat → Int32} (C : MC_ E p s m c code 4 "TraceDeskLaw") (hr : meth.sig.returnType = ret) (hlk : meth.locks = false) (hB : E.1 + 1 = s.heap.size) (hX : SX_ E b L xs s) (hC : Cl_ E.2.2.2.2.2 873) (hG : Pg_ E.2.2.2.2.2) (T1 : E.2.2.2.2.2 1 ∧ ty_ 1 = 11 ∧ ln_ 1 = 0) (T2 : E.2.2.2.2.2 814 ∧ ty_ 814 = 12 ∧ ln_ 814 = 0) {out : Int × V_} (ho : out.1 = 1) (k : Int → V_ → Option (Int × V_)) (H : ∀ (i : Int) (v : V_), k i v = some out → G_ E p l e room_1 s m #[.ref b] below meth c 4 1 (lw_Z below #[.ref b] s) 18 [(0, (3, (b : Int))), (1, (2, 1)), (2, (2, 814)), (3, (0, i))] [] v 873) (i : Int) (v : V_) (h : fL_785 (fun j => (xs j.toNat).toInt) (L : Int) k i v = some out) : G_ E p l e room_1 s m #[.ref b] below meth c 4 1 (lw_Z below #[.ref b] s) 785 [(0, (3, (b : Int))), (1, (2, 1)), (2, (2, 814)), (3, (0, i))] [] v 873 := by
  rw [fL_785] at h
  refine g_aload_n C (f := 1) dL_law_785 1 rfl ?_
  refine g_aload3 C (f := 0) dL_law_786 0 rfl ?_
  refine g_iload_n C (f := 3) dL_law_787 3 rfl ?_
  refine g_iconst C (n := 1) dL_law_788 (by decide) ?_
  refine g_iadd C dL_law_789 ?_
  obtain ⟨c163, h⟩ := ck_e h
  refine g_xld C hX c163 dL_law_790 ?_
  refine g_aload3 C (f := 0) dL_law_791 0 rfl ?_
  refine g_iload_n C (f := 3) dL_law_792 3 rfl ?_
  refine g_iconst C (n := 2) dL_law_793 (by decide) ?_
  refine g_iadd C dL_law_794 ?_
  obtain ⟨c164, h⟩ := ck_e h
  refine g_xld C hX c164 dL_law_795 ?_
  refine g_aload3 C (f := 0) dL_law_796 0 rfl ?_
  refine g_iload_n C (f := 3) dL_law_797 3 rfl ?_
  refine g_iconst C (n := 3) dL_law_798 (by decide) ?_
  refine g_iadd C dL_law_799 ?_
  obtain ⟨c165, h⟩ := ck_e h
  refine g_xld C hX c165 dL_law_800 ?_
  obtain ⟨q166, eq166, h⟩ := bd_e h
  refine g_cVk C [(0, (fun j => (xs j.toNat).toInt) (wr_ (i + 1))), (0, (fun j => (xs j.toNat).toInt) (wr_ (i + 2))), (0, (fun j => (xs j.toNat).toInt) (wr_ (i + 3)))] (cX11_copied_ok l hC hG T1 eq166) okX11 T1.2.1 (rg_ hC T1.1) km_L_106 cv_X11_copied rfl (by decide) rfl rfl (by decide) ⟨by decide, by decide⟩ (Nat.le_of_ble_eq_true rfl) dL_law_801 ?_
  refine g_aload_n C (f := 2) dL_law_804 2 rfl ?_
  refine g_aload3 C (f := 0) dL_law_805 0 rfl ?_
  refine g_iload_n C (f := 3) dL_law_806 3 rfl ?_
  refine g_iconst C (n := 1) dL_law_807 (by decide) ?_
  refine g_iadd C dL_law_808 ?_
  obtain ⟨c167, h⟩ := ck_e h
  refine g_xld C hX c167 dL_law_809 ?_
  refine g_aload3 C (f := 0) dL_law_810 0 rfl ?_
  refine g_iload_n C (f := 3) dL_law_811 3 rfl ?_
  refine g_iconst C (n := 2) dL_law_812 (by decide) ?_
  refine g_iadd C dL_law_813 ?_
  obtain ⟨c168, h⟩ := ck_e h
  refine g_xld C hX c168 dL_law_814 ?_
  refine g_aload3 C (f := 0) dL_law_815 0 rfl ?_
  refine g_iload_n C (f := 3) dL_law_816 3 rfl ?_
  refine g_iconst C (n := 3) dL_law_817 (by decide) ?_
  refine g_iadd C dL_law_818 ?_
  obtain ⟨c169, h⟩ := ck_e h
  refine g_xld C hX c169 dL_law_819 ?_
  obtain ⟨q170, eq170, h⟩ := bd_e h
  refine g_cVk C [(0, (fun j => (xs j.toNat).toInt) (wr_ (i + 1))), (0, (fun j => (xs j.toNat).toInt) (wr_ (i + 2))), (0, (fun j => (xs j.toNat).toInt) (wr_ (i + 3)))] (cX12_copied_ok l hC T2 eq170) okX12 T2.2.1 (rg_ hC T2.1) km_L_109 cv_X12_copied rfl (by decide) rfl rfl (by decide) ⟨by decide, by decide⟩ (Nat.le_of_ble_eq_true rfl) dL_law_820 ?_
  refine g_icmp_eq C 1068 dL_law_823 rfl (fun c171 => ?_) (fun c171 => ?_)
  · replace h := if_t h c171
    obtain ⟨y172, ey172, h⟩ := lt_e h
    refine g_iincx C (ls' := [(3, (0, y172)), (0, (3, (b : Int))), (1, (2, 1)), (2, (2, 814))]) ey172 dL_law_1068 3 rfl (by decide) (by decide) rfl ?_
    refine g_goto C 18 dL_law_1071 rfl ?_
    refine g_sub [1, 2, 3, 0] rfl rfl ?_
    exact H _ _ h
  · replace h := if_f h c171
    refine g_iconst C (n := 0) dL_law_826 (by decide) ?_
    cases h
    exact absurd ho (by show ¬ ((0 : Int) = 1); decide)
def fL_828 (xs : Int → Int) (L : Int) (k : Int → V_ → Option (Int × V_)) (i : Int) (v : V_) : Option (Int × V_) :=
  ck_ (0 ≤ wr_ (i + 1) ∧ wr_ (i + 1) < L) (
  ck_ (0 ≤ wr_ (i + 2) ∧ wr_ (i + 2) < L) (
  ck_ (0 ≤ wr_ (i + 3) ∧ wr_ (i + 3) < L) (
  bd_ (fX11_busy 1 (xs (wr_ (i + 1))) (xs (wr_ (i + 2))) (xs (wr_ (i + 3))) v) fun q176 =>
  ck_ (0 ≤ wr_ (i + 1) ∧ wr_ (i + 1) < L) (
  ck_ (0 ≤ wr_ (i + 2) ∧ wr_ (i + 2) < L) (
  ck_ (0 ≤ wr_ (i + 3) ∧ wr_ (i + 3) < L) (
  bd_ (fX12_busy 814 (xs (wr_ (i + 1))) (xs (wr_ (i + 2))) (xs (wr_ (i + 3))) q176.2) fun q180 =>
  if q176.1 = q180.1 then (
    lt_ (wr_ (i + 6)) fun y182 =>
    k y182 q180.2)
  else (
    some (0, q180.2))))))))
theorem tL_828 {E : En_} {p : Program} {l : Launch} {e : Env} {s : State} {m : MethodId} {below : List Frame} {meth : Method} {c : Code} {b L : Nat} {xs : Nat → Int32} (C : MC_ E p s m c code 4 "TraceDeskLaw") (hr : meth.sig.returnType = ret) (hlk : meth.locks = false) (hB : E.1 + 1 = s.heap.size) (hX : SX_ E b L xs s) (hC : Cl_ E.2.2.2.2.2 873) (hG : Pg_ E.2.2.2.2.2) (T1 : E.2.2.2.2.2 1 ∧ ty_ 1 = 11 ∧ ln_ 1 = 0) (T2 : E.2.2.2.2.2 814 ∧ ty_ 814 = 12 ∧ ln_ 814 = 0) {out : Int × V_} (ho : out.1 = 1) (k : Int → V_ → Option (Int × V_)) (H : ∀ (i : Int) (v : V_), k i v = some out → G_ E p l e room_1 s m #[.ref b] below meth c 4 1 (lw_Z below #[.ref b] s) 18 [(0, (3, (b : Int))), (1, (2, 1)), (2, (2, 814)), (3, (0, i))] [] v 873) (i : Int) (v : V_) (h : fL_828 (fun j => (xs j.toNat).toInt) (L : Int) k i v = some out) : G_ E p l e room_1 s m #[.ref b] below meth c 4 1 (lw_Z below #[.ref b] s) 828 [(0, (3, (b : Int))), (1, (2, 1)), (2, (2, 814)), (3, (0, i))] [] v 873 := by
  rw [fL_828] at h
  refine g_aload_n C (f := 1) dL_law_828 1 rfl ?_
  refine g_aload3 C (f := 0) dL_law_829 0 rfl ?_
  refine g_iload_n C (f := 3) dL_law_830 3 rfl ?_
  refine g_iconst C (n := 1) dL_law_831 (by decide) ?_
  refine g_iadd C dL_law_832 ?_
  obtain ⟨c173, h⟩ := ck_e h
  refine g_xld C hX c173 dL_law_833 ?_
  refine g_aload3 C (f := 0) dL_law_834 0 rfl ?_
  refine g_iload_n C (f := 3) dL_law_835 3 rfl ?_
  refine g_iconst C (n := 2) dL_law_836 (by decide) ?_
  refine g_iadd C dL_law_837 ?_
  obtain ⟨c174, h⟩ := ck_e h
  refine g_xld C hX c174 dL_law_838 ?_
  refine g_aload3 C (f := 0) dL_law_839 0 rfl ?_
  refine g_iload_n C (f := 3) dL_law_840 3 rfl ?_
  refine g_iconst C (n := 3) dL_law_841 (by decide) ?_
  refine g_iadd C dL_law_842 ?_
  obtain ⟨c175, h⟩ := ck_e h
  refine g_xld C hX c175 dL_law_843 ?_
  obtain ⟨q176, eq176, h⟩ := bd_e h
  refine g_cVk C [(0, (fun j => (xs j.toNat).toInt) (wr_ (i + 1))), (0, (fun j => (xs j.toNat).toInt) (wr_ (i + 2))), (0, (fun j => (xs j.toNat).toInt) (wr_ (i + 3)))] (cX11_busy_ok l hC hG T1 eq176) okX11 T1.2.1 (rg_ hC T1.1) km_L_110 cv_X11_busy rfl (by decide) rfl rfl (by decide) ⟨by decide, by decide⟩ (Nat.le_of_ble_eq_true rfl) dL_law_844 ?_
  refine g_aload_n C (f := 2) dL_law_847 2 rfl ?_
  refine g_aload3 C (f := 0) dL_law_848 0 rfl ?_
  refine g_iload_n C (f := 3) dL_law_849 3 rfl ?_
  refine g_iconst C (n := 1) dL_law_850 (by decide) ?_
  refine g_iadd C dL_law_851 ?_
  obtain ⟨c177, h⟩ := ck_e h
  refine g_xld C hX c177 dL_law_852 ?_
  refine g_aload3 C (f := 0) dL_law_853 0 rfl ?_
  refine g_iload_n C (f := 3) dL_law_854 3 rfl ?_
  refine g_iconst C (n := 2) dL_law_855 (by decide) ?_
  refine g_iadd C dL_law_856 ?_
  obtain ⟨c178, h⟩ := ck_e h
  refine g_xld C hX c178 dL_law_857 ?_
  refine g_aload3 C (f := 0) dL_law_858 0 rfl ?_
  refine g_iload_n C (f := 3) dL_law_859 3 rfl ?_
  refine g_iconst C (n := 3) dL_law_860 (by decide) ?_
  refine g_iadd C dL_law_861 ?_
  obtain ⟨c179, h⟩ := ck_e h
  refine g_xld C hX c179 dL_law_862 ?_
  obtain ⟨q180, eq180, h⟩ := bd_e h
  refine g_cVk C [(0, (fun j => (xs j.toNat).toInt) (wr_ (i + 1))), (0, (fun j => (xs j.toNat).toInt) (wr_ (i + 2))), (0, (fun j => (xs j.toNat).toInt) (wr_ (i + 3)))] (cX12_busy_ok l hC T2 eq180) okX12 T2.2.1 (rg_ hC T2.1) km_L_113 cv_X12_busy rfl (by decide) rfl rfl (by decide) ⟨by decide, by decide⟩ (Nat.le_of_ble_eq_true rfl) dL_law_863 ?_
  refine g_icmp_eq C 1068 dL_law_866 rfl (fun c181 => ?_) (fun c181 => ?_)
  · replace h := if_t h c181
    obtain ⟨y182, ey182, h⟩ := lt_e h
    refine g_iincx C (ls' := [(3, (0, y182)), (0, (3, (b : Int))), (1, (2, 1)), (2, (2, 814))]) ey182 dL_law_1068 3 rfl (by decide) (by decide) rfl ?_
    refine g_goto C 18 dL_law_1071 rfl ?_
    refine g_sub [1, 2, 3, 0] rfl rfl ?_
    exact H _ _ h
  · replace h := if_f h c181
    refine g_iconst C (n := 0) dL_law_869 (by decide) ?_
    cases h
    exact absurd ho (by show ¬ ((0 : Int) = 1); decide)
def fL_871 (xs : Int → Int) (L : Int) (k : Int → V_ → Option (Int × V_)) (i : Int) (v : V_) : Option (Int × V_) :=
  ck_ (0 ≤ wr_ (i + 1) ∧ wr_ (i + 1) < L) (
  bd_ (fX11_slow 1 (xs (wr_ (i + 1))) v) fun q184 =>
  ck_ (0 ≤ wr_ (i + 1) ∧ wr_ (i + 1) < L) (
  bd_ (fX12_slow 814 (xs (wr_ (i + 1))) q184.2) fun q186 =>
  if q184.1 = q186.1 then (
    lt_ (wr_ (i + 6)) fun y188 =>
    k y188 q186.2)
  else (
    some (0, q186.2))))
theorem tL_871 {E : En_} {p : Program} {l : Launch} {e : Env} {s : State} {m : MethodId} {below : List Frame} {meth : Method} {c : Code} {b L : Nat} {xs : Nat → Int32} (C : MC_ E p s m c code 4 "TraceDeskLaw") (hr : meth.sig.returnType = ret) (hlk : meth.locks = false) (hB : E.1 + 1 = s.heap.size) (hX : SX_ E b L xs s) (hC : Cl_ E.2.2.2.2.2 873) (hG : Pg_ E.2.2.2.2.2) (T1 : E.2.2.2.2.2 1 ∧ ty_ 1 = 11 ∧ ln_ 1 = 0) (T2 : E.2.2.2.2.2 814 ∧ ty_ 814 = 12 ∧ ln_ 814 = 0) {out : Int × V_} (ho : out.1 = 1) (k : Int → V_ → Option (Int × V_)) (H : ∀ (i : Int) (v : V_), k i v = some out → G_ E p l e room_1 s m #[.ref b] below meth c 4 1 (lw_Z below #[.ref b] s) 18 [(0, (3, (b : Int))), (1, (2, 1)), (2, (2, 814)), (3, (0, i))] [] v 873) (i : Int) (v : V_) (h : fL_871 (fun j => (xs j.toNat).toInt) (L : Int) k i v = some out) : G_ E p l e room_1 s m #[.ref b] below meth c 4 1 (lw_Z below #[.ref b] s) 871 [(0, (3, (b : Int))), (1, (2, 1)), (2, (2, 814)), (3, (0, i))] [] v 873 := by
  rw [fL_871] at h
  refine g_aload_n C (f := 1) dL_law_871 1 rfl ?_
  refine g_aload3 C (f := 0) dL_law_872 0 rfl ?_
  refine g_iload_n C (f := 3) dL_law_873 3 rfl ?_
  refine g_iconst C (n := 1) dL_law_874 (by decide) ?_
  refine g_iadd C dL_law_875 ?_
  obtain ⟨c183, h⟩ := ck_e h
  refine g_xld C hX c183 dL_law_876 ?_
  obtain ⟨q184, eq184, h⟩ := bd_e h
  refine g_cVk C [(0, (fun j => (xs j.toNat).toInt) (wr_ (i + 1)))] (cX11_slow_ok l hC hG T1 eq184) okX11 T1.2.1 (rg_ hC T1.1) km_L_114 cv_X11_slow rfl (by decide) rfl rfl (by decide) ⟨by decide, by decide⟩ (Nat.le_of_ble_eq_true rfl) dL_law_877 ?_
  refine g_aload_n C (f := 2) dL_law_880 2 rfl ?_
  refine g_aload3 C (f := 0) dL_law_881 0 rfl ?_
  refine g_iload_n C (f := 3) dL_law_882 3 rfl ?_
  refine g_iconst C (n := 1) dL_law_883 (by decide) ?_
  refine g_iadd C dL_law_884 ?_
  obtain ⟨c185, h⟩ := ck_e h
  refine g_xld C hX c185 dL_law_885 ?_
  obtain ⟨q186, eq186, h⟩ := bd_e h
  refine g_cVk C [(0, (fun j => (xs j.toNat).toInt) (wr_ (i + 1)))] (cX12_slow_ok l hC T2 eq186) okX12 T2.2.1 (rg_ hC T2.1) km_L_117 cv_X12_slow rfl (by decide) rfl rfl (by decide) ⟨by decide, by decide⟩ (Nat.le_of_ble_eq_true rfl) dL_law_886 ?_
  refine g_icmp_eq C 1068 dL_law_889 rfl (fun c187 => ?_) (fun c187 => ?_)
  · replace h := if_t h c187
    obtain ⟨y188, ey188, h⟩ := lt_e h
    refine g_iincx C (ls' := [(3, (0, y188)), (0, (3, (b : Int))), (1, (2, 1)), (2, (2, 814))]) ey188 dL_law_1068 3 rfl (by decide) (by decide) rfl ?_
    refine g_goto C 18 dL_law_1071 rfl ?_
    refine g_sub [1, 2, 3, 0] rfl rfl ?_
    exact H _ _ h
  · replace h := if_f h c187
    refine g_iconst C (n := 0) dL_law_892 (by decide) ?_
    cases h
    exact absurd ho (by show ¬ ((0 : Int) = 1); decide)
def fL_894 (xs : Int → Int) (L : Int) (k : Int → V_ → Option (Int × V_)) (i : Int) (v : V_) : Option (Int × V_) :=
  ck_ (0 ≤ wr_ (i + 1) ∧ wr_ (i + 1) < L) (
  bd_ (fX11_fast 1 (xs (wr_ (i + 1))) v) fun q190 =>
  ck_ (0 ≤ wr_ (i + 1) ∧ wr_ (i + 1) < L) (
  bd_ (fX12_fast 814 (xs (wr_ (i + 1))) q190.2) fun q192 =>
  if q190.1 = q192.1 then (
    lt_ (wr_ (i + 6)) fun y194 =>
    k y194 q192.2)
  else (
    some (0, q192.2))))
theorem tL_894 {E : En_} {p : Program} {l : Launch} {e : Env} {s : State} {m : MethodId} {below : List Frame} {meth : Method} {c : Code} {b L : Nat} {xs : Nat → Int32} (C : MC_ E p s m c code 4 "TraceDeskLaw") (hr : meth.sig.returnType = ret) (hlk : meth.locks = false) (hB : E.1 + 1 = s.heap.size) (hX : SX_ E b L xs s) (hC : Cl_ E.2.2.2.2.2 873) (hG : Pg_ E.2.2.2.2.2) (T1 : E.2.2.2.2.2 1 ∧ ty_ 1 = 11 ∧ ln_ 1 = 0) (T2 : E.2.2.2.2.2 814 ∧ ty_ 814 = 12 ∧ ln_ 814 = 0) {out : Int × V_} (ho : out.1 = 1) (k : Int → V_ → Option (Int × V_)) (H : ∀ (i : Int) (v : V_), k i v = some out → G_ E p l e room_1 s m #[.ref b] below meth c 4 1 (lw_Z below #[.ref b] s) 18 [(0, (3, (b : Int))), (1, (2, 1)), (2, (2, 814)), (3, (0, i))] [] v 873) (i : Int) (v : V_) (h : fL_894 (fun j => (xs j.toNat).toInt) (L : Int) k i v = some out) : G_ E p l e room_1 s m #[.ref b] below meth c 4 1 (lw_Z below #[.ref b] s) 894 [(0, (3, (b : Int))), (1, (2, 1)), (2, (2, 814)), (3, (0, i))] [] v 873 := by
  rw [fL_894] at h
  refine g_aload_n C (f := 1) dL_law_894 1 rfl ?_
  refine g_aload3 C (f := 0) dL_law_895 0 rfl ?_
  refine g_iload_n C (f := 3) dL_law_896 3 rfl ?_
  refine g_iconst C (n := 1) dL_law_897 (by decide) ?_
  refine g_iadd C dL_law_898 ?_
  obtain ⟨c189, h⟩ := ck_e h
  refine g_xld C hX c189 dL_law_899 ?_
  obtain ⟨q190, eq190, h⟩ := bd_e h
  refine g_cVk C [(0, (fun j => (xs j.toNat).toInt) (wr_ (i + 1)))] (cX11_fast_ok l hC hG T1 eq190) okX11 T1.2.1 (rg_ hC T1.1) km_L_118 cv_X11_fast rfl (by decide) rfl rfl (by decide) ⟨by decide, by decide⟩ (Nat.le_of_ble_eq_true rfl) dL_law_900 ?_
  refine g_aload_n C (f := 2) dL_law_903 2 rfl ?_
  refine g_aload3 C (f := 0) dL_law_904 0 rfl ?_
  refine g_iload_n C (f := 3) dL_law_905 3 rfl ?_
  refine g_iconst C (n := 1) dL_law_906 (by decide) ?_
  refine g_iadd C dL_law_907 ?_
  obtain ⟨c191, h⟩ := ck_e h
  refine g_xld C hX c191 dL_law_908 ?_
  obtain ⟨q192, eq192, h⟩ := bd_e h
  refine g_cVk C [(0, (fun j => (xs j.toNat).toInt) (wr_ (i + 1)))] (cX12_fast_ok l hC T2 eq192) okX12 T2.2.1 (rg_ hC T2.1) km_L_121 cv_X12_fast rfl (by decide) rfl rfl (by decide) ⟨by decide, by decide⟩ (Nat.le_of_ble_eq_true rfl) dL_law_909 ?_
  refine g_icmp_eq C 1068 dL_law_912 rfl (fun c193 => ?_) (fun c193 => ?_)
  · replace h := if_t h c193
    obtain ⟨y194, ey194, h⟩ := lt_e h
    refine g_iincx C (ls' := [(3, (0, y194)), (0, (3, (b : Int))), (1, (2, 1)), (2, (2, 814))]) ey194 dL_law_1068 3 rfl (by decide) (by decide) rfl ?_
    refine g_goto C 18 dL_law_1071 rfl ?_
    refine g_sub [1, 2, 3, 0] rfl rfl ?_
    exact H _ _ h
  · replace h := if_f h c193
    refine g_iconst C (n := 0) dL_law_915 (by decide) ?_
    cases h
    exact absurd ho (by show ¬ ((0 : Int) = 1); decide)
def fL_917 (xs : Int → Int) (L : Int) (k : Int → V_ → Option (Int × V_)) (i : Int) (v : V_) : Option (Int × V_) :=
  bd_ (fX11_agrees 1 v) fun q195 =>
  bd_ (fX12_agrees 814 q195.2) fun q196 =>
  if q195.1 = q196.1 then (
    lt_ (wr_ (i + 6)) fun y198 =>
    k y198 q196.2)
  else (
    some (0, q196.2))
theorem tL_917 {E : En_} {p : Program} {l : Launch} {e : Env} {s : State} {m : MethodId} {below : List Frame} {meth : Method} {c : Code} {b L : Nat} {xs : Nat → Int32} (C : MC_ E p s m c code 4 "TraceDeskLaw") (hr : meth.sig.returnType = ret) (hlk : meth.locks = false) (hB : E.1 + 1 = s.heap.size) (hX : SX_ E b L xs s) (hC : Cl_ E.2.2.2.2.2 873) (hG : Pg_ E.2.2.2.2.2) (T1 : E.2.2.2.2.2 1 ∧ ty_ 1 = 11 ∧ ln_ 1 = 0) (T2 : E.2.2.2.2.2 814 ∧ ty_ 814 = 12 ∧ ln_ 814 = 0) {out : Int × V_} (ho : out.1 = 1) (k : Int → V_ → Option (Int × V_)) (H : ∀ (i : Int) (v : V_), k i v = some out → G_ E p l e room_1 s m #[.ref b] below meth c 4 1 (lw_Z below #[.ref b] s) 18 [(0, (3, (b : Int))), (1, (2, 1)), (2, (2, 814)), (3, (0, i))] [] v 873) (i : Int) (v : V_) (h : fL_917 (fun j => (xs j.toNat).toInt) (L : Int) k i v = some out) : G_ E p l e room_1 s m #[.ref b] below meth c 4 1 (lw_Z below #[.ref b] s) 917 [(0, (3, (b : Int))), (1, (2, 1)), (2, (2, 814)), (3, (0, i))] [] v 873 := by
  rw [fL_917] at h
  refine g_aload_n C (f := 1) dL_law_917 1 rfl ?_
  obtain ⟨q195, eq195, h⟩ := bd_e h
  refine g_cVk C [] (cX11_agrees_ok l hC hG T1 eq195) okX11 T1.2.1 (rg_ hC T1.1) km_L_122 cv_X11_agrees rfl (by decide) rfl rfl (by decide) ⟨by decide, by decide⟩ (Nat.le_of_ble_eq_true rfl) dL_law_918 ?_
  refine g_aload_n C (f := 2) dL_law_921 2 rfl ?_
  obtain ⟨q196, eq196, h⟩ := bd_e h
  refine g_cVk C [] (cX12_agrees_ok l hC T2 eq196) okX12 T2.2.1 (rg_ hC T2.1) km_L_125 cv_X12_agrees rfl (by decide) rfl rfl (by decide) ⟨by decide, by decide⟩ (Nat.le_of_ble_eq_true rfl) dL_law_922 ?_
  refine g_icmp_eq C 1068 dL_law_925 rfl (fun c197 => ?_) (fun c197 => ?_)
  · replace h := if_t h c197
    obtain ⟨y198, ey198, h⟩ := lt_e h
    refine g_iincx C (ls' := [(3, (0, y198)), (0, (3, (b : Int))), (1, (2, 1)), (2, (2, 814))]) ey198 dL_law_1068 3 rfl (by decide) (by decide) rfl ?_
    refine g_goto C 18 dL_law_1071 rfl ?_
    refine g_sub [1, 2, 3, 0] rfl rfl ?_
    exact H _ _ h
  · replace h := if_f h c197
    refine g_iconst C (n := 0) dL_law_928 (by decide) ?_
    cases h
    exact absurd ho (by show ¬ ((0 : Int) = 1); decide)
def fL_930 (xs : Int → Int) (L : Int) (k : Int → V_ → Option (Int × V_)) (i : Int) (v : V_) : Option (Int × V_) :=
  ck_ (0 ≤ wr_ (i + 1) ∧ wr_ (i + 1) < L) (
  bd_ (fX11_left 1 (xs (wr_ (i + 1))) v) fun q200 =>
  ck_ (0 ≤ wr_ (i + 1) ∧ wr_ (i + 1) < L) (
  bd_ (fX12_left 814 (xs (wr_ (i + 1))) q200.2) fun q202 =>
  if q200.1 = q202.1 then (
    lt_ (wr_ (i + 6)) fun y204 =>
    k y204 q202.2)
  else (
    some (0, q202.2))))
theorem tL_930 {E : En_} {p : Program} {l : Launch} {e : Env} {s : State} {m : MethodId} {below : List Frame} {meth : Method} {c : Code} {b L : Nat} {xs : Nat → Int32} (C : MC_ E p s m c code 4 "TraceDeskLaw") (hr : meth.sig.returnType = ret) (hlk : meth.locks = false) (hB : E.1 + 1 = s.heap.size) (hX : SX_ E b L xs s) (hC : Cl_ E.2.2.2.2.2 873) (hG : Pg_ E.2.2.2.2.2) (T1 : E.2.2.2.2.2 1 ∧ ty_ 1 = 11 ∧ ln_ 1 = 0) (T2 : E.2.2.2.2.2 814 ∧ ty_ 814 = 12 ∧ ln_ 814 = 0) {out : Int × V_} (ho : out.1 = 1) (k : Int → V_ → Option (Int × V_)) (H : ∀ (i : Int) (v : V_), k i v = some out → G_ E p l e room_1 s m #[.ref b] below meth c 4 1 (lw_Z below #[.ref b] s) 18 [(0, (3, (b : Int))), (1, (2, 1)), (2, (2, 814)), (3, (0, i))] [] v 873) (i : Int) (v : V_) (h : fL_930 (fun j => (xs j.toNat).toInt) (L : Int) k i v = some out) : G_ E p l e room_1 s m #[.ref b] below meth c 4 1 (lw_Z below #[.ref b] s) 930 [(0, (3, (b : Int))), (1, (2, 1)), (2, (2, 814)), (3, (0, i))] [] v 873 := by
  rw [fL_930] at h
  refine g_aload_n C (f := 1) dL_law_930 1 rfl ?_
  refine g_aload3 C (f := 0) dL_law_931 0 rfl ?_
  refine g_iload_n C (f := 3) dL_law_932 3 rfl ?_
  refine g_iconst C (n := 1) dL_law_933 (by decide) ?_
  refine g_iadd C dL_law_934 ?_
  obtain ⟨c199, h⟩ := ck_e h
  refine g_xld C hX c199 dL_law_935 ?_
  obtain ⟨q200, eq200, h⟩ := bd_e h
  refine g_cVk C [(0, (fun j => (xs j.toNat).toInt) (wr_ (i + 1)))] (cX11_left_ok l hC hG T1 eq200) okX11 T1.2.1 (rg_ hC T1.1) km_L_126 cv_X11_left rfl (by decide) rfl rfl (by decide) ⟨by decide, by decide⟩ (Nat.le_of_ble_eq_true rfl) dL_law_936 ?_
  refine g_aload_n C (f := 2) dL_law_939 2 rfl ?_
  refine g_aload3 C (f := 0) dL_law_940 0 rfl ?_
  refine g_iload_n C (f := 3) dL_law_941 3 rfl ?_
  refine g_iconst C (n := 1) dL_law_942 (by decide) ?_
  refine g_iadd C dL_law_943 ?_
  obtain ⟨c201, h⟩ := ck_e h
  refine g_xld C hX c201 dL_law_944 ?_
  obtain ⟨q202, eq202, h⟩ := bd_e h
  refine g_cVk C [(0, (fun j => (xs j.toNat).toInt) (wr_ (i + 1)))] (cX12_left_ok l hC T2 eq202) okX12 T2.2.1 (rg_ hC T2.1) km_L_129 cv_X12_left rfl (by decide) rfl rfl (by decide) ⟨by decide, by decide⟩ (Nat.le_of_ble_eq_true rfl) dL_law_945 ?_
  refine g_icmp_eq C 1068 dL_law_948 rfl (fun c203 => ?_) (fun c203 => ?_)
  · replace h := if_t h c203
    obtain ⟨y204, ey204, h⟩ := lt_e h
    refine g_iincx C (ls' := [(3, (0, y204)), (0, (3, (b : Int))), (1, (2, 1)), (2, (2, 814))]) ey204 dL_law_1068 3 rfl (by decide) (by decide) rfl ?_
    refine g_goto C 18 dL_law_1071 rfl ?_
    refine g_sub [1, 2, 3, 0] rfl rfl ?_
    exact H _ _ h
  · replace h := if_f h c203
    refine g_iconst C (n := 0) dL_law_951 (by decide) ?_
    cases h
    exact absurd ho (by show ¬ ((0 : Int) = 1); decide)
def fL_953 (xs : Int → Int) (L : Int) (k : Int → V_ → Option (Int × V_)) (i : Int) (v : V_) : Option (Int × V_) :=
  ck_ (0 ≤ wr_ (i + 1) ∧ wr_ (i + 1) < L) (
  bd_ (fX11_growth 1 (xs (wr_ (i + 1))) v) fun q206 =>
  ck_ (0 ≤ wr_ (i + 1) ∧ wr_ (i + 1) < L) (
  bd_ (fX12_growth 814 (xs (wr_ (i + 1))) q206.2) fun q208 =>
  if q206.1 = q208.1 then (
    lt_ (wr_ (i + 6)) fun y210 =>
    k y210 q208.2)
  else (
    some (0, q208.2))))
theorem tL_953 {E : En_} {p : Program} {l : Launch} {e : Env} {s : State} {m : MethodId} {below : List Frame} {meth : Method} {c : Code} {b L : Nat} {xs : Nat → Int32} (C : MC_ E p s m c code 4 "TraceDeskLaw") (hr : meth.sig.returnType = ret) (hlk : meth.locks = false) (hB : E.1 + 1 = s.heap.size) (hX : SX_ E b L xs s) (hC : Cl_ E.2.2.2.2.2 873) (hG : Pg_ E.2.2.2.2.2) (T1 : E.2.2.2.2.2 1 ∧ ty_ 1 = 11 ∧ ln_ 1 = 0) (T2 : E.2.2.2.2.2 814 ∧ ty_ 814 = 12 ∧ ln_ 814 = 0) {out : Int × V_} (ho : out.1 = 1) (k : Int → V_ → Option (Int × V_)) (H : ∀ (i : Int) (v : V_), k i v = some out → G_ E p l e room_1 s m #[.ref b] below meth c 4 1 (lw_Z below #[.ref b] s) 18 [(0, (3, (b : Int))), (1, (2, 1)), (2, (2, 814)), (3, (0, i))] [] v 873) (i : Int) (v : V_) (h : fL_953 (fun j => (xs j.toNat).toInt) (L : Int) k i v = some out) : G_ E p l e room_1 s m #[.ref b] below meth c 4 1 (lw_Z below #[.ref b] s) 953 [(0, (3, (b : Int))), (1, (2, 1)), (2, (2, 814)), (3, (0, i))] [] v 873 := by
  rw [fL_953] at h
  refine g_aload_n C (f := 1) dL_law_953 1 rfl ?_
  refine g_aload3 C (f := 0) dL_law_954 0 rfl ?_
  refine g_iload_n C (f := 3) dL_law_955 3 rfl ?_
  refine g_iconst C (n := 1) dL_law_956 (by decide) ?_
  refine g_iadd C dL_law_957 ?_
  obtain ⟨c205, h⟩ := ck_e h
  refine g_xld C hX c205 dL_law_958 ?_
  obtain ⟨q206, eq206, h⟩ := bd_e h
  refine g_cVk C [(0, (fun j => (xs j.toNat).toInt) (wr_ (i + 1)))] (cX11_growth_ok l hC hG T1 eq206) okX11 T1.2.1 (rg_ hC T1.1) km_L_130 cv_X11_growth rfl (by decide) rfl rfl (by decide) ⟨by decide, by decide⟩ (Nat.le_of_ble_eq_true rfl) dL_law_959 ?_
  refine g_aload_n C (f := 2) dL_law_962 2 rfl ?_
  refine g_aload3 C (f := 0) dL_law_963 0 rfl ?_
  refine g_iload_n C (f := 3) dL_law_964 3 rfl ?_
  refine g_iconst C (n := 1) dL_law_965 (by decide) ?_
  refine g_iadd C dL_law_966 ?_
  obtain ⟨c207, h⟩ := ck_e h
  refine g_xld C hX c207 dL_law_967 ?_
  obtain ⟨q208, eq208, h⟩ := bd_e h
  refine g_cVk C [(0, (fun j => (xs j.toNat).toInt) (wr_ (i + 1)))] (cX12_growth_ok l hC T2 eq208) okX12 T2.2.1 (rg_ hC T2.1) km_L_133 cv_X12_growth rfl (by decide) rfl rfl (by decide) ⟨by decide, by decide⟩ (Nat.le_of_ble_eq_true rfl) dL_law_968 ?_
  refine g_icmp_eq C 1068 dL_law_971 rfl (fun c209 => ?_) (fun c209 => ?_)
  · replace h := if_t h c209
    obtain ⟨y210, ey210, h⟩ := lt_e h
    refine g_iincx C (ls' := [(3, (0, y210)), (0, (3, (b : Int))), (1, (2, 1)), (2, (2, 814))]) ey210 dL_law_1068 3 rfl (by decide) (by decide) rfl ?_
    refine g_goto C 18 dL_law_1071 rfl ?_
    refine g_sub [1, 2, 3, 0] rfl rfl ?_
    exact H _ _ h
  · replace h := if_f h c209
    refine g_iconst C (n := 0) dL_law_974 (by decide) ?_
    cases h
    exact absurd ho (by show ¬ ((0 : Int) = 1); decide)
def fL_976 (xs : Int → Int) (L : Int) (k : Int → V_ → Option (Int × V_)) (i : Int) (v : V_) : Option (Int × V_) :=
  ck_ (0 ≤ wr_ (i + 1) ∧ wr_ (i + 1) < L) (
  bd_ (fX11_saved 1 (xs (wr_ (i + 1))) v) fun q212 =>
  ck_ (0 ≤ wr_ (i + 1) ∧ wr_ (i + 1) < L) (
  bd_ (fX12_saved 814 (xs (wr_ (i + 1))) q212.2) fun q214 =>
  if q212.1 = q214.1 then (
    lt_ (wr_ (i + 6)) fun y216 =>
    k y216 q214.2)
  else (
    some (0, q214.2))))
theorem tL_976 {E : En_} {p : Program} {l : Launch} {e : Env} {s : State} {m : MethodId} {below : List Frame} {meth : Method} {c : Code} {b L : Nat} {xs : Nat → Int32} (C : MC_ E p s m c code 4 "TraceDeskLaw") (hr : meth.sig.returnType = ret) (hlk : meth.locks = false) (hB : E.1 + 1 = s.heap.size) (hX : SX_ E b L xs s) (hC : Cl_ E.2.2.2.2.2 873) (hG : Pg_ E.2.2.2.2.2) (T1 : E.2.2.2.2.2 1 ∧ ty_ 1 = 11 ∧ ln_ 1 = 0) (T2 : E.2.2.2.2.2 814 ∧ ty_ 814 = 12 ∧ ln_ 814 = 0) {out : Int × V_} (ho : out.1 = 1) (k : Int → V_ → Option (Int × V_)) (H : ∀ (i : Int) (v : V_), k i v = some out → G_ E p l e room_1 s m #[.ref b] below meth c 4 1 (lw_Z below #[.ref b] s) 18 [(0, (3, (b : Int))), (1, (2, 1)), (2, (2, 814)), (3, (0, i))] [] v 873) (i : Int) (v : V_) (h : fL_976 (fun j => (xs j.toNat).toInt) (L : Int) k i v = some out) : G_ E p l e room_1 s m #[.ref b] below meth c 4 1 (lw_Z below #[.ref b] s) 976 [(0, (3, (b : Int))), (1, (2, 1)), (2, (2, 814)), (3, (0, i))] [] v 873 := by
  rw [fL_976] at h
  refine g_aload_n C (f := 1) dL_law_976 1 rfl ?_
  refine g_aload3 C (f := 0) dL_law_977 0 rfl ?_
  refine g_iload_n C (f := 3) dL_law_978 3 rfl ?_
  refine g_iconst C (n := 1) dL_law_979 (by decide) ?_
  refine g_iadd C dL_law_980 ?_
  obtain ⟨c211, h⟩ := ck_e h
  refine g_xld C hX c211 dL_law_981 ?_
  obtain ⟨q212, eq212, h⟩ := bd_e h
  refine g_cVk C [(0, (fun j => (xs j.toNat).toInt) (wr_ (i + 1)))] (cX11_saved_ok l hC hG T1 eq212) okX11 T1.2.1 (rg_ hC T1.1) km_L_134 cv_X11_saved rfl (by decide) rfl rfl (by decide) ⟨by decide, by decide⟩ (Nat.le_of_ble_eq_true rfl) dL_law_982 ?_
  refine g_aload_n C (f := 2) dL_law_985 2 rfl ?_
  refine g_aload3 C (f := 0) dL_law_986 0 rfl ?_
  refine g_iload_n C (f := 3) dL_law_987 3 rfl ?_
  refine g_iconst C (n := 1) dL_law_988 (by decide) ?_
  refine g_iadd C dL_law_989 ?_
  obtain ⟨c213, h⟩ := ck_e h
  refine g_xld C hX c213 dL_law_990 ?_
  obtain ⟨q214, eq214, h⟩ := bd_e h
  refine g_cVk C [(0, (fun j => (xs j.toNat).toInt) (wr_ (i + 1)))] (cX12_saved_ok l hC T2 eq214) okX12 T2.2.1 (rg_ hC T2.1) km_L_137 cv_X12_saved rfl (by decide) rfl rfl (by decide) ⟨by decide, by decide⟩ (Nat.le_of_ble_eq_true rfl) dL_law_991 ?_
  refine g_icmp_eq C 1068 dL_law_994 rfl (fun c215 => ?_) (fun c215 => ?_)
  · replace h := if_t h c215
    obtain ⟨y216, ey216, h⟩ := lt_e h
    refine g_iincx C (ls' := [(3, (0, y216)), (0, (3, (b : Int))), (1, (2, 1)), (2, (2, 814))]) ey216 dL_law_1068 3 rfl (by decide) (by decide) rfl ?_
    refine g_goto C 18 dL_law_1071 rfl ?_
    refine g_sub [1, 2, 3, 0] rfl rfl ?_
    exact H _ _ h
  · replace h := if_f h c215
    refine g_iconst C (n := 0) dL_law_997 (by decide) ?_
    cases h
    exact absurd ho (by show ¬ ((0 : Int) = 1); decide)
def fL_999 (xs : Int → Int) (L : Int) (k : Int → V_ → Option (Int × V_)) (i : Int) (v : V_) : Option (Int × V_) :=
  ck_ (0 ≤ wr_ (i + 1) ∧ wr_ (i + 1) < L) (
  bd_ (fX11_hold 1 (xs (wr_ (i + 1))) v) fun q218 =>
  ck_ (0 ≤ wr_ (i + 1) ∧ wr_ (i + 1) < L) (
  bd_ (fX12_hold 814 (xs (wr_ (i + 1))) q218.2) fun q220 =>
  if q218.1 = q220.1 then (
    lt_ (wr_ (i + 6)) fun y222 =>
    k y222 q220.2)
  else (
    some (0, q220.2))))
theorem tL_999 {E : En_} {p : Program} {l : Launch} {e : Env} {s : State} {m : MethodId} {below : List Frame} {meth : Method} {c : Code} {b L : Nat} {xs : Nat → Int32} (C : MC_ E p s m c code 4 "TraceDeskLaw") (hr : meth.sig.returnType = ret) (hlk : meth.locks = false) (hB : E.1 + 1 = s.heap.size) (hX : SX_ E b L xs s) (hC : Cl_ E.2.2.2.2.2 873) (hG : Pg_ E.2.2.2.2.2) (T1 : E.2.2.2.2.2 1 ∧ ty_ 1 = 11 ∧ ln_ 1 = 0) (T2 : E.2.2.2.2.2 814 ∧ ty_ 814 = 12 ∧ ln_ 814 = 0) {out : Int × V_} (ho : out.1 = 1) (k : Int → V_ → Option (Int × V_)) (H : ∀ (i : Int) (v : V_), k i v = some out → G_ E p l e room_1 s m #[.ref b] below meth c 4 1 (lw_Z below #[.ref b] s) 18 [(0, (3, (b : Int))), (1, (2, 1)), (2, (2, 814)), (3, (0, i))] [] v 873) (i : Int) (v : V_) (h : fL_999 (fun j => (xs j.toNat).toInt) (L : Int) k i v = some out) : G_ E p l e room_1 s m #[.ref b] below meth c 4 1 (lw_Z below #[.ref b] s) 999 [(0, (3, (b : Int))), (1, (2, 1)), (2, (2, 814)), (3, (0, i))] [] v 873 := by
  rw [fL_999] at h
  refine g_aload_n C (f := 1) dL_law_999 1 rfl ?_
  refine g_aload3 C (f := 0) dL_law_1000 0 rfl ?_
  refine g_iload_n C (f := 3) dL_law_1001 3 rfl ?_
  refine g_iconst C (n := 1) dL_law_1002 (by decide) ?_
  refine g_iadd C dL_law_1003 ?_
  obtain ⟨c217, h⟩ := ck_e h
  refine g_xld C hX c217 dL_law_1004 ?_
  obtain ⟨q218, eq218, h⟩ := bd_e h
  refine g_cVk C [(0, (fun j => (xs j.toNat).toInt) (wr_ (i + 1)))] (cX11_hold_ok l hC hG T1 eq218) okX11 T1.2.1 (rg_ hC T1.1) km_L_138 cv_X11_hold rfl (by decide) rfl rfl (by decide) ⟨by decide, by decide⟩ (Nat.le_of_ble_eq_true rfl) dL_law_1005 ?_
  refine g_aload_n C (f := 2) dL_law_1008 2 rfl ?_
  refine g_aload3 C (f := 0) dL_law_1009 0 rfl ?_
  refine g_iload_n C (f := 3) dL_law_1010 3 rfl ?_
  refine g_iconst C (n := 1) dL_law_1011 (by decide) ?_
  refine g_iadd C dL_law_1012 ?_
  obtain ⟨c219, h⟩ := ck_e h
  refine g_xld C hX c219 dL_law_1013 ?_
  obtain ⟨q220, eq220, h⟩ := bd_e h
  refine g_cVk C [(0, (fun j => (xs j.toNat).toInt) (wr_ (i + 1)))] (cX12_hold_ok l hC T2 eq220) okX12 T2.2.1 (rg_ hC T2.1) km_L_142 cv_X12_hold rfl (by decide) rfl rfl (by decide) ⟨by decide, by decide⟩ (Nat.le_of_ble_eq_true rfl) dL_law_1014 ?_
  refine g_icmp_eq C 1068 dL_law_1017 rfl (fun c221 => ?_) (fun c221 => ?_)
  · replace h := if_t h c221
    obtain ⟨y222, ey222, h⟩ := lt_e h
    refine g_iincx C (ls' := [(3, (0, y222)), (0, (3, (b : Int))), (1, (2, 1)), (2, (2, 814))]) ey222 dL_law_1068 3 rfl (by decide) (by decide) rfl ?_
    refine g_goto C 18 dL_law_1071 rfl ?_
    refine g_sub [1, 2, 3, 0] rfl rfl ?_
    exact H _ _ h
  · replace h := if_f h c221
    refine g_iconst C (n := 0) dL_law_1020 (by decide) ?_
    cases h
    exact absurd ho (by show ¬ ((0 : Int) = 1); decide)
def fL_1022 (xs : Int → Int) (L : Int) (k : Int → V_ → Option (Int × V_)) (i : Int) (v : V_) : Option (Int × V_) :=
  ck_ (0 ≤ wr_ (i + 1) ∧ wr_ (i + 1) < L) (
  bd_ (fX11_restore 1 (xs (wr_ (i + 1))) v) fun q224 =>
  ck_ (0 ≤ wr_ (i + 1) ∧ wr_ (i + 1) < L) (
  bd_ (fX12_restore 814 (xs (wr_ (i + 1))) q224.2) fun q226 =>
  if q224.1 = q226.1 then (
    lt_ (wr_ (i + 6)) fun y228 =>
    k y228 q226.2)
  else (
    some (0, q226.2))))
theorem tL_1022 {E : En_} {p : Program} {l : Launch} {e : Env} {s : State} {m : MethodId} {below : List Frame} {meth : Method} {c : Code} {b L : Nat} {xs : Nat → Int32} (C : MC_ E p s m c code 4 "TraceDeskLaw") (hr : meth.sig.returnType = ret) (hlk : meth.locks = false) (hB : E.1 + 1 = s.heap.size) (hX : SX_ E b L xs s) (hC : Cl_ E.2.2.2.2.2 873) (hG : Pg_ E.2.2.2.2.2) (T1 : E.2.2.2.2.2 1 ∧ ty_ 1 = 11 ∧ ln_ 1 = 0) (T2 : E.2.2.2.2.2 814 ∧ ty_ 814 = 12 ∧ ln_ 814 = 0) {out : Int × V_} (ho : out.1 = 1) (k : Int → V_ → Option (Int × V_)) (H : ∀ (i : Int) (v : V_), k i v = some out → G_ E p l e room_1 s m #[.ref b] below meth c 4 1 (lw_Z below #[.ref b] s) 18 [(0, (3, (b : Int))), (1, (2, 1)), (2, (2, 814)), (3, (0, i))] [] v 873) (i : Int) (v : V_) (h : fL_1022 (fun j => (xs j.toNat).toInt) (L : Int) k i v = some out) : G_ E p l e room_1 s m #[.ref b] below meth c 4 1 (lw_Z below #[.ref b] s) 1022 [(0, (3, (b : Int))), (1, (2, 1)), (2, (2, 814)), (3, (0, i))] [] v 873 := by
  rw [fL_1022] at h
  refine g_aload_n C (f := 1) dL_law_1022 1 rfl ?_
  refine g_aload3 C (f := 0) dL_law_1023 0 rfl ?_
  refine g_iload_n C (f := 3) dL_law_1024 3 rfl ?_
  refine g_iconst C (n := 1) dL_law_1025 (by decide) ?_
  refine g_iadd C dL_law_1026 ?_
  obtain ⟨c223, h⟩ := ck_e h
  refine g_xld C hX c223 dL_law_1027 ?_
  obtain ⟨q224, eq224, h⟩ := bd_e h
  refine g_cVk C [(0, (fun j => (xs j.toNat).toInt) (wr_ (i + 1)))] (cX11_restore_ok l hC hG T1 eq224) okX11 T1.2.1 (rg_ hC T1.1) km_L_143 cv_X11_restore rfl (by decide) rfl rfl (by decide) ⟨by decide, by decide⟩ (Nat.le_of_ble_eq_true rfl) dL_law_1028 ?_
  refine g_aload_n C (f := 2) dL_law_1031 2 rfl ?_
  refine g_aload3 C (f := 0) dL_law_1032 0 rfl ?_
  refine g_iload_n C (f := 3) dL_law_1033 3 rfl ?_
  refine g_iconst C (n := 1) dL_law_1034 (by decide) ?_
  refine g_iadd C dL_law_1035 ?_
  obtain ⟨c225, h⟩ := ck_e h
  refine g_xld C hX c225 dL_law_1036 ?_
  obtain ⟨q226, eq226, h⟩ := bd_e h
  refine g_cVk C [(0, (fun j => (xs j.toNat).toInt) (wr_ (i + 1)))] (cX12_restore_ok l hC T2 eq226) okX12 T2.2.1 (rg_ hC T2.1) km_L_146 cv_X12_restore rfl (by decide) rfl rfl (by decide) ⟨by decide, by decide⟩ (Nat.le_of_ble_eq_true rfl) dL_law_1037 ?_
  refine g_icmp_eq C 1068 dL_law_1040 rfl (fun c227 => ?_) (fun c227 => ?_)
  · replace h := if_t h c227
    obtain ⟨y228, ey228, h⟩ := lt_e h
    refine g_iincx C (ls' := [(3, (0, y228)), (0, (3, (b : Int))), (1, (2, 1)), (2, (2, 814))]) ey228 dL_law_1068 3 rfl (by decide) (by decide) rfl ?_
    refine g_goto C 18 dL_law_1071 rfl ?_
    refine g_sub [1, 2, 3, 0] rfl rfl ?_
    exact H _ _ h
  · replace h := if_f h c227
    refine g_iconst C (n := 0) dL_law_1043 (by decide) ?_
    cases h
    exact absurd ho (by show ¬ ((0 : Int) = 1); decide)
def fL_1045 (xs : Int → Int) (L : Int) (k : Int → V_ → Option (Int × V_)) (i : Int) (v : V_) : Option (Int × V_) :=
  ck_ (0 ≤ wr_ (i + 1) ∧ wr_ (i + 1) < L) (
  bd_ (fX11_count 1 (xs (wr_ (i + 1))) v) fun q230 =>
  ck_ (0 ≤ wr_ (i + 1) ∧ wr_ (i + 1) < L) (
  bd_ (fX12_count 814 (xs (wr_ (i + 1))) q230.2) fun q232 =>
  if q230.1 = q232.1 then (
    lt_ (wr_ (i + 6)) fun y234 =>
    k y234 q232.2)
  else (
    some (0, q232.2))))
theorem tL_1045 {E : En_} {p : Program} {l : Launch} {e : Env} {s : State} {m : MethodId} {below : List Frame} {meth : Method} {c : Code} {b L : Nat} {xs : Nat → Int32} (C : MC_ E p s m c code 4 "TraceDeskLaw") (hr : meth.sig.returnType = ret) (hlk : meth.locks = false) (hB : E.1 + 1 = s.heap.size) (hX : SX_ E b L xs s) (hC : Cl_ E.2.2.2.2.2 873) (hG : Pg_ E.2.2.2.2.2) (T1 : E.2.2.2.2.2 1 ∧ ty_ 1 = 11 ∧ ln_ 1 = 0) (T2 : E.2.2.2.2.2 814 ∧ ty_ 814 = 12 ∧ ln_ 814 = 0) {out : Int × V_} (ho : out.1 = 1) (k : Int → V_ → Option (Int × V_)) (H : ∀ (i : Int) (v : V_), k i v = some out → G_ E p l e room_1 s m #[.ref b] below meth c 4 1 (lw_Z below #[.ref b] s) 18 [(0, (3, (b : Int))), (1, (2, 1)), (2, (2, 814)), (3, (0, i))] [] v 873) (i : Int) (v : V_) (h : fL_1045 (fun j => (xs j.toNat).toInt) (L : Int) k i v = some out) : G_ E p l e room_1 s m #[.ref b] below meth c 4 1 (lw_Z below #[.ref b] s) 1045 [(0, (3, (b : Int))), (1, (2, 1)), (2, (2, 814)), (3, (0, i))] [] v 873 := by
  rw [fL_1045] at h
  refine g_aload_n C (f := 1) dL_law_1045 1 rfl ?_
  refine g_aload3 C (f := 0) dL_law_1046 0 rfl ?_
  refine g_iload_n C (f := 3) dL_law_1047 3 rfl ?_
  refine g_iconst C (n := 1) dL_law_1048 (by decide) ?_
  refine g_iadd C dL_law_1049 ?_
  obtain ⟨c229, h⟩ := ck_e h
  refine g_xld C hX c229 dL_law_1050 ?_
  obtain ⟨q230, eq230, h⟩ := bd_e h
  refine g_cVk C [(0, (fun j => (xs j.toNat).toInt) (wr_ (i + 1)))] (cX11_count_ok l hC hG T1 eq230) okX11 T1.2.1 (rg_ hC T1.1) km_L_147 cv_X11_count rfl (by decide) rfl rfl (by decide) ⟨by decide, by decide⟩ (Nat.le_of_ble_eq_true rfl) dL_law_1051 ?_
  refine g_aload_n C (f := 2) dL_law_1054 2 rfl ?_
  refine g_aload3 C (f := 0) dL_law_1055 0 rfl ?_
  refine g_iload_n C (f := 3) dL_law_1056 3 rfl ?_
  refine g_iconst C (n := 1) dL_law_1057 (by decide) ?_
  refine g_iadd C dL_law_1058 ?_
  obtain ⟨c231, h⟩ := ck_e h
  refine g_xld C hX c231 dL_law_1059 ?_
  obtain ⟨q232, eq232, h⟩ := bd_e h
  refine g_cVk C [(0, (fun j => (xs j.toNat).toInt) (wr_ (i + 1)))] (cX12_count_ok l hC T2 eq232) okX12 T2.2.1 (rg_ hC T2.1) km_L_150 cv_X12_count rfl (by decide) rfl rfl (by decide) ⟨by decide, by decide⟩ (Nat.le_of_ble_eq_true rfl) dL_law_1060 ?_
  refine g_icmp_eq C 1068 dL_law_1063 rfl (fun c233 => ?_) (fun c233 => ?_)
  · replace h := if_t h c233
    obtain ⟨y234, ey234, h⟩ := lt_e h
    refine g_iincx C (ls' := [(3, (0, y234)), (0, (3, (b : Int))), (1, (2, 1)), (2, (2, 814))]) ey234 dL_law_1068 3 rfl (by decide) (by decide) rfl ?_
    refine g_goto C 18 dL_law_1071 rfl ?_
    refine g_sub [1, 2, 3, 0] rfl rfl ?_
    exact H _ _ h
  · replace h := if_f h c233
    refine g_iconst C (n := 0) dL_law_1066 (by decide) ?_
    cases h
    exact absurd ho (by show ¬ ((0 : Int) = 1); decide)
def fL_18 (xs : Int → Int) (L : Int) : Nat → Int → V_ → Option (Int × V_)
  | 0, _, _ => none
  | n + 1, i, v =>
  if wr_ (L - 6) < i then some (1, v)
  else ck_ (0 ≤ i ∧ i < L) (
    if bA_ (xs i) 31 = 0 then fL_176 xs L (fL_18 xs L n) i v else
    if bA_ (xs i) 31 = 1 then fL_239 xs L (fL_18 xs L n) i v else
    if bA_ (xs i) 31 = 2 then fL_262 xs L (fL_18 xs L n) i v else
    if bA_ (xs i) 31 = 3 then fL_275 xs L (fL_18 xs L n) i v else
    if bA_ (xs i) 31 = 4 then fL_288 xs L (fL_18 xs L n) i v else
    if bA_ (xs i) 31 = 5 then fL_311 xs L (fL_18 xs L n) i v else
    if bA_ (xs i) 31 = 6 then fL_334 xs L (fL_18 xs L n) i v else
    if bA_ (xs i) 31 = 7 then fL_367 xs L (fL_18 xs L n) i v else
    if bA_ (xs i) 31 = 8 then fL_400 xs L (fL_18 xs L n) i v else
    if bA_ (xs i) 31 = 9 then fL_433 xs L (fL_18 xs L n) i v else
    if bA_ (xs i) 31 = 10 then fL_466 xs L (fL_18 xs L n) i v else
    if bA_ (xs i) 31 = 11 then fL_499 xs L (fL_18 xs L n) i v else
    if bA_ (xs i) 31 = 12 then fL_512 xs L (fL_18 xs L n) i v else
    if bA_ (xs i) 31 = 13 then fL_525 xs L (fL_18 xs L n) i v else
    if bA_ (xs i) 31 = 14 then fL_564 xs L (fL_18 xs L n) i v else
    if bA_ (xs i) 31 = 15 then fL_607 xs L (fL_18 xs L n) i v else
    if bA_ (xs i) 31 = 16 then fL_620 xs L (fL_18 xs L n) i v else
    if bA_ (xs i) 31 = 17 then fL_633 xs L (fL_18 xs L n) i v else
    if bA_ (xs i) 31 = 18 then fL_666 xs L (fL_18 xs L n) i v else
    if bA_ (xs i) 31 = 19 then fL_699 xs L (fL_18 xs L n) i v else
    if bA_ (xs i) 31 = 20 then fL_742 xs L (fL_18 xs L n) i v else
    if bA_ (xs i) 31 = 21 then fL_785 xs L (fL_18 xs L n) i v else
    if bA_ (xs i) 31 = 22 then fL_828 xs L (fL_18 xs L n) i v else
    if bA_ (xs i) 31 = 23 then fL_871 xs L (fL_18 xs L n) i v else
    if bA_ (xs i) 31 = 24 then fL_894 xs L (fL_18 xs L n) i v else
    if bA_ (xs i) 31 = 25 then fL_917 xs L (fL_18 xs L n) i v else
    if bA_ (xs i) 31 = 26 then fL_930 xs L (fL_18 xs L n) i v else
    if bA_ (xs i) 31 = 27 then fL_953 xs L (fL_18 xs L n) i v else
    if bA_ (xs i) 31 = 28 then fL_976 xs L (fL_18 xs L n) i v else
    if bA_ (xs i) 31 = 29 then fL_999 xs L (fL_18 xs L n) i v else
    if bA_ (xs i) 31 = 30 then fL_1022 xs L (fL_18 xs L n) i v else
    if bA_ (xs i) 31 = 31 then fL_1045 xs L (fL_18 xs L n) i v else
    none)
theorem tL_18 {E : En_} {p : Program} {l : Launch} {e : Env} {s : State} {m : MethodId} {below : List Frame} {meth : Method} {c : Code} {b L : Nat} {xs : Nat → Int32} (C : MC_ E p s m c code 4 "TraceDeskLaw") (hr : meth.sig.returnType = ret) (hlk : meth.locks = false) (hB : E.1 + 1 = s.heap.size) (hX : SX_ E b L xs s) (hC : Cl_ E.2.2.2.2.2 873) (hG : Pg_ E.2.2.2.2.2) (T1 : E.2.2.2.2.2 1 ∧ ty_ 1 = 11 ∧ ln_ 1 = 0) (T2 : E.2.2.2.2.2 814 ∧ ty_ 814 = 12 ∧ ln_ 814 = 0) {out : Int × V_} (ho : out.1 = 1) : ∀ (n : Nat) (i : Int) (v : V_), fL_18 (fun j => (xs j.toNat).toInt) (L : Int) n i v = some out → G_ E p l e room_1 s m #[.ref b] below meth c 4 1 (lw_Z below #[.ref b] s) 18 [(0, (3, (b : Int))), (1, (2, 1)), (2, (2, 814)), (3, (0, i))] [] v 873 := by
  intro n
  induction n with
  | zero =>
    intro i v h
    cases h
  | succ n H =>
    intro i v h
    rw [fL_18] at h
    refine g_iload_n C (f := 3) dL_law_18 3 rfl ?_
    refine g_aload3 C (f := 0) dL_law_19 0 rfl ?_
    refine g_xlen C hX dL_law_20 ?_
    refine g_bipush C (n := 6) dL_law_21 (by decide) ?_
    refine g_isub C dL_law_23 ?_
    refine g_icmp_gt C 1074 dL_law_24 rfl (fun c1 => ?_) (fun c1 => ?_)
    · refine g_iconst C (n := 1) dL_law_1074 (by decide) ?_
      exact g_lend C hr hlk hB (by decide) dL_law_1075
    · replace h := if_f h c1
      obtain ⟨c2, h⟩ := ck_e h
      refine g_aload3 C (f := 0) dL_law_27 0 rfl ?_
      refine g_iload_n C (f := 3) dL_law_28 3 rfl ?_
      refine g_xld C hX c2 dL_law_29 ?_
      refine g_bipush C (n := 31) dL_law_30 (by decide) ?_
      refine g_iand C dL_law_32 ?_
      by_cases d0 : bA_ ((xs i.toNat).toInt) 31 = 0
      · replace h := if_t h d0
        refine g_tin C 176 dL_law_33 0 d0 (by decide) (by decide) rfl rfl ?_
        exact tL_176 C hr hlk hB hX hC hG T1 T2 ho _ H _ _ h
      replace h := if_f h d0
      by_cases d1 : bA_ ((xs i.toNat).toInt) 31 = 1
      · replace h := if_t h d1
        refine g_tin C 239 dL_law_33 1 d1 (by decide) (by decide) rfl rfl ?_
        exact tL_239 C hr hlk hB hX hC hG T1 T2 ho _ H _ _ h
      replace h := if_f h d1
      by_cases d2 : bA_ ((xs i.toNat).toInt) 31 = 2
      · replace h := if_t h d2
        refine g_tin C 262 dL_law_33 2 d2 (by decide) (by decide) rfl rfl ?_
        exact tL_262 C hr hlk hB hX hC hG T1 T2 ho _ H _ _ h
      replace h := if_f h d2
      by_cases d3 : bA_ ((xs i.toNat).toInt) 31 = 3
      · replace h := if_t h d3
        refine g_tin C 275 dL_law_33 3 d3 (by decide) (by decide) rfl rfl ?_
        exact tL_275 C hr hlk hB hX hC hG T1 T2 ho _ H _ _ h
      replace h := if_f h d3
      by_cases d4 : bA_ ((xs i.toNat).toInt) 31 = 4
      · replace h := if_t h d4
        refine g_tin C 288 dL_law_33 4 d4 (by decide) (by decide) rfl rfl ?_
        exact tL_288 C hr hlk hB hX hC hG T1 T2 ho _ H _ _ h
      replace h := if_f h d4
      by_cases d5 : bA_ ((xs i.toNat).toInt) 31 = 5
      · replace h := if_t h d5
        refine g_tin C 311 dL_law_33 5 d5 (by decide) (by decide) rfl rfl ?_
        exact tL_311 C hr hlk hB hX hC hG T1 T2 ho _ H _ _ h
      replace h := if_f h d5
      by_cases d6 : bA_ ((xs i.toNat).toInt) 31 = 6
      · replace h := if_t h d6
        refine g_tin C 334 dL_law_33 6 d6 (by decide) (by decide) rfl rfl ?_
        exact tL_334 C hr hlk hB hX hC hG T1 T2 ho _ H _ _ h
      replace h := if_f h d6
      by_cases d7 : bA_ ((xs i.toNat).toInt) 31 = 7
      · replace h := if_t h d7
        refine g_tin C 367 dL_law_33 7 d7 (by decide) (by decide) rfl rfl ?_
        exact tL_367 C hr hlk hB hX hC hG T1 T2 ho _ H _ _ h
      replace h := if_f h d7
      by_cases d8 : bA_ ((xs i.toNat).toInt) 31 = 8
      · replace h := if_t h d8
        refine g_tin C 400 dL_law_33 8 d8 (by decide) (by decide) rfl rfl ?_
        exact tL_400 C hr hlk hB hX hC hG T1 T2 ho _ H _ _ h
      replace h := if_f h d8
      by_cases d9 : bA_ ((xs i.toNat).toInt) 31 = 9
      · replace h := if_t h d9
        refine g_tin C 433 dL_law_33 9 d9 (by decide) (by decide) rfl rfl ?_
        exact tL_433 C hr hlk hB hX hC hG T1 T2 ho _ H _ _ h
      replace h := if_f h d9
      by_cases d10 : bA_ ((xs i.toNat).toInt) 31 = 10
      · replace h := if_t h d10
        refine g_tin C 466 dL_law_33 10 d10 (by decide) (by decide) rfl rfl ?_
        exact tL_466 C hr hlk hB hX hC hG T1 T2 ho _ H _ _ h
      replace h := if_f h d10
      by_cases d11 : bA_ ((xs i.toNat).toInt) 31 = 11
      · replace h := if_t h d11
        refine g_tin C 499 dL_law_33 11 d11 (by decide) (by decide) rfl rfl ?_
        exact tL_499 C hr hlk hB hX hC hG T1 T2 ho _ H _ _ h
      replace h := if_f h d11
      by_cases d12 : bA_ ((xs i.toNat).toInt) 31 = 12
      · replace h := if_t h d12
        refine g_tin C 512 dL_law_33 12 d12 (by decide) (by decide) rfl rfl ?_
        exact tL_512 C hr hlk hB hX hC hG T1 T2 ho _ H _ _ h
      replace h := if_f h d12
      by_cases d13 : bA_ ((xs i.toNat).toInt) 31 = 13
      · replace h := if_t h d13
        refine g_tin C 525 dL_law_33 13 d13 (by decide) (by decide) rfl rfl ?_
        exact tL_525 C hr hlk hB hX hC hG T1 T2 ho _ H _ _ h
      replace h := if_f h d13
      by_cases d14 : bA_ ((xs i.toNat).toInt) 31 = 14
      · replace h := if_t h d14
        refine g_tin C 564 dL_law_33 14 d14 (by decide) (by decide) rfl rfl ?_
        exact tL_564 C hr hlk hB hX hC hG T1 T2 ho _ H _ _ h
      replace h := if_f h d14
      by_cases d15 : bA_ ((xs i.toNat).toInt) 31 = 15
      · replace h := if_t h d15
        refine g_tin C 607 dL_law_33 15 d15 (by decide) (by decide) rfl rfl ?_
        exact tL_607 C hr hlk hB hX hC hG T1 T2 ho _ H _ _ h
      replace h := if_f h d15
      by_cases d16 : bA_ ((xs i.toNat).toInt) 31 = 16
      · replace h := if_t h d16
        refine g_tin C 620 dL_law_33 16 d16 (by decide) (by decide) rfl rfl ?_
        exact tL_620 C hr hlk hB hX hC hG T1 T2 ho _ H _ _ h
      replace h := if_f h d16
      by_cases d17 : bA_ ((xs i.toNat).toInt) 31 = 17
      · replace h := if_t h d17
        refine g_tin C 633 dL_law_33 17 d17 (by decide) (by decide) rfl rfl ?_
        exact tL_633 C hr hlk hB hX hC hG T1 T2 ho _ H _ _ h
      replace h := if_f h d17
      by_cases d18 : bA_ ((xs i.toNat).toInt) 31 = 18
      · replace h := if_t h d18
        refine g_tin C 666 dL_law_33 18 d18 (by decide) (by decide) rfl rfl ?_
        exact tL_666 C hr hlk hB hX hC hG T1 T2 ho _ H _ _ h
      replace h := if_f h d18
      by_cases d19 : bA_ ((xs i.toNat).toInt) 31 = 19
      · replace h := if_t h d19
        refine g_tin C 699 dL_law_33 19 d19 (by decide) (by decide) rfl rfl ?_
        exact tL_699 C hr hlk hB hX hC hG T1 T2 ho _ H _ _ h
      replace h := if_f h d19
      by_cases d20 : bA_ ((xs i.toNat).toInt) 31 = 20
      · replace h := if_t h d20
        refine g_tin C 742 dL_law_33 20 d20 (by decide) (by decide) rfl rfl ?_
        exact tL_742 C hr hlk hB hX hC hG T1 T2 ho _ H _ _ h
      replace h := if_f h d20
      by_cases d21 : bA_ ((xs i.toNat).toInt) 31 = 21
      · replace h := if_t h d21
        refine g_tin C 785 dL_law_33 21 d21 (by decide) (by decide) rfl rfl ?_
        exact tL_785 C hr hlk hB hX hC hG T1 T2 ho _ H _ _ h
      replace h := if_f h d21
      by_cases d22 : bA_ ((xs i.toNat).toInt) 31 = 22
      · replace h := if_t h d22
        refine g_tin C 828 dL_law_33 22 d22 (by decide) (by decide) rfl rfl ?_
        exact tL_828 C hr hlk hB hX hC hG T1 T2 ho _ H _ _ h
      replace h := if_f h d22
      by_cases d23 : bA_ ((xs i.toNat).toInt) 31 = 23
      · replace h := if_t h d23
        refine g_tin C 871 dL_law_33 23 d23 (by decide) (by decide) rfl rfl ?_
        exact tL_871 C hr hlk hB hX hC hG T1 T2 ho _ H _ _ h
      replace h := if_f h d23
      by_cases d24 : bA_ ((xs i.toNat).toInt) 31 = 24
      · replace h := if_t h d24
        refine g_tin C 894 dL_law_33 24 d24 (by decide) (by decide) rfl rfl ?_
        exact tL_894 C hr hlk hB hX hC hG T1 T2 ho _ H _ _ h
      replace h := if_f h d24
      by_cases d25 : bA_ ((xs i.toNat).toInt) 31 = 25
      · replace h := if_t h d25
        refine g_tin C 917 dL_law_33 25 d25 (by decide) (by decide) rfl rfl ?_
        exact tL_917 C hr hlk hB hX hC hG T1 T2 ho _ H _ _ h
      replace h := if_f h d25
      by_cases d26 : bA_ ((xs i.toNat).toInt) 31 = 26
      · replace h := if_t h d26
        refine g_tin C 930 dL_law_33 26 d26 (by decide) (by decide) rfl rfl ?_
        exact tL_930 C hr hlk hB hX hC hG T1 T2 ho _ H _ _ h
      replace h := if_f h d26
      by_cases d27 : bA_ ((xs i.toNat).toInt) 31 = 27
      · replace h := if_t h d27
        refine g_tin C 953 dL_law_33 27 d27 (by decide) (by decide) rfl rfl ?_
        exact tL_953 C hr hlk hB hX hC hG T1 T2 ho _ H _ _ h
      replace h := if_f h d27
      by_cases d28 : bA_ ((xs i.toNat).toInt) 31 = 28
      · replace h := if_t h d28
        refine g_tin C 976 dL_law_33 28 d28 (by decide) (by decide) rfl rfl ?_
        exact tL_976 C hr hlk hB hX hC hG T1 T2 ho _ H _ _ h
      replace h := if_f h d28
      by_cases d29 : bA_ ((xs i.toNat).toInt) 31 = 29
      · replace h := if_t h d29
        refine g_tin C 999 dL_law_33 29 d29 (by decide) (by decide) rfl rfl ?_
        exact tL_999 C hr hlk hB hX hC hG T1 T2 ho _ H _ _ h
      replace h := if_f h d29
      by_cases d30 : bA_ ((xs i.toNat).toInt) 31 = 30
      · replace h := if_t h d30
        refine g_tin C 1022 dL_law_33 30 d30 (by decide) (by decide) rfl rfl ?_
        exact tL_1022 C hr hlk hB hX hC hG T1 T2 ho _ H _ _ h
      replace h := if_f h d30
      by_cases d31 : bA_ ((xs i.toNat).toInt) 31 = 31
      · replace h := if_t h d31
        refine g_tin C 1045 dL_law_33 31 d31 (by decide) (by decide) rfl rfl ?_
        exact tL_1045 C hr hlk hB hX hC hG T1 T2 ho _ H _ _ h
      replace h := if_f h d31
      cases h
