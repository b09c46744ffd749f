theorem met_GT0 {l : Launch} {y : MethodName} {cc : ByteArray} {maxL : Nat} {ret : Option FieldType} {rm : Room} {E : En_} {sz : Int} {v v' : V_} {as : List AV_} {rk aK aV : Nat} {r : Int} (own : String) (hy : plainName y.cls = true) (ho : y.cls = own) (hls : ls_ as ≤ maxL)
    (body : ∀ p e s m args below meth c, MC_ E p s m c cc maxL own → KA_ s → KS_ E aK aV s → meth.sig.returnType = ret → meth.locks = false → meth.name = y.name → G_ E p l e rm s m args below meth c maxL sz (Q_ E below args s sz sz rk r v') 0 (la_ 0 as) [] v sz) : Met l y [.code y cc maxL ret] rm (PcT_ E sz v aK aV as) (Qc_ E sz rk r v') 0 0 (fun q => E.1 < q) := by
  have e : sz + ((0 : Nat) : Int) = sz := by omega
  have h := met_GT (l := l) (y := y) (cc := cc) (maxL := maxL) (ret := ret) (rm := rm) (E := E) (sz := sz) (K := 0) (v := v) (v' := v') (as := as) (rk := rk) (aK := aK) (aV := aV) (r := r) own hy ho hls (fun p e2 s m args below meth c h1 h2 h3 h4 h5 h6 => by rw [e]; exact body p e2 s m args below meth c h1 h2 h3 h4 h5 h6)
  rw [e] at h
  exact h
def yCod_ : MethodName := ⟨"java/lang/String", "coder", "()B"⟩
def yLat_ : MethodName := ⟨"java/lang/String", "isLatin1", "()Z"⟩
def yLen_ : MethodName := ⟨"java/lang/String", "length", "()I"⟩
def yChr_ : MethodName := ⟨"java/lang/String", "charAt", "(I)C"⟩
def yChk_ : MethodName := ⟨"java/lang/String", "checkIndex", "(II)V"⟩
def yPre_ : MethodName := ⟨"jdk/internal/util/Preconditions", "checkIndex", "(IILjava/util/function/BiFunction;)I"⟩
def yLch_ : MethodName := ⟨"java/lang/StringLatin1", "charAt", "([BI)C"⟩
set_option maxRecDepth 100000 in
theorem kjV : Cond.fieldLink "java/lang/String" 9 "java/lang/String" "value" "[B" ∈ tb_ := tb_at 2298 (by rfl) (by rfl)
set_option maxRecDepth 100000 in
theorem kjC : Cond.fieldLink "java/lang/String" 15 "java/lang/String" "coder" "B" ∈ tb_ := tb_at 2299 (by rfl) (by rfl)
set_option maxRecDepth 100000 in
theorem kjS : Cond.fieldLink "java/lang/String" 38 "java/lang/String" "COMPACT_STRINGS" "Z" ∈ tb_ := tb_at 207 (by rfl) (by rfl)
set_option maxRecDepth 100000 in
theorem kjF : Cond.fieldLink "java/lang/String" 1053 "jdk/internal/util/Preconditions" "SIOOBE_FORMATTER" "Ljava/util/function/BiFunction;" ∈ tb_ := tb_at 223 (by rfl) (by rfl)
set_option maxRecDepth 100000 in
theorem kjm335 : Cond.methodLink "java/lang/String" 335 yCod_ ∈ tb_ := tb_at 203 (by rfl) (by rfl)
set_option maxRecDepth 100000 in
theorem kjm492 : Cond.methodLink "java/lang/String" 492 yLat_ ∈ tb_ := tb_at 213 (by rfl) (by rfl)
set_option maxRecDepth 100000 in
theorem kjm495 : Cond.methodLink "java/lang/String" 495 yLch_ ∈ tb_ := tb_at 217 (by rfl) (by rfl)
set_option maxRecDepth 100000 in
theorem kjm1059 : Cond.methodLink "java/lang/String" 1059 yPre_ ∈ tb_ := tb_at 225 (by rfl) (by rfl)
set_option maxRecDepth 100000 in
theorem kjm9 : Cond.methodLink "java/lang/StringLatin1" 9 yChk_ ∈ tb_ := tb_at 220 (by rfl) (by rfl)
set_option maxRecDepth 100000 in
theorem kjm27 : Cond.methodLink "TraceDesk$Tokens" 27 yLen_ ∈ tb_ := tb_mem (by decide +kernel) (by rfl)
set_option maxRecDepth 100000 in
theorem kjm33 : Cond.methodLink "TraceDesk$Tokens" 33 yChr_ ∈ tb_ := tb_mem (by decide +kernel) (by rfl)
set_option maxRecDepth 100000 in
theorem cv_Cod : cv_ok yCod_ "java/lang/String" prog_16_method_152_code 1 (some .byte) 0 := ⟨tb_at 204 (by rfl) (by rfl), tb_at 205 (by rfl) (by rfl), tb_at 161 (by rfl) (by rfl), tb_at 206 (by rfl) (by rfl), rfl, by decide +kernel, by decide +kernel, by decide +kernel⟩
set_option maxRecDepth 100000 in
theorem cv_Lat : cv_ok yLat_ "java/lang/String" prog_16_method_154_code 1 (some .boolean) 0 := ⟨tb_at 214 (by rfl) (by rfl), tb_at 215 (by rfl) (by rfl), tb_at 161 (by rfl) (by rfl), tb_at 216 (by rfl) (by rfl), rfl, by decide +kernel, by decide +kernel, by decide +kernel⟩
set_option maxRecDepth 100000 in
theorem cv_Len : cv_ok yLen_ "java/lang/String" prog_16_method_54_code 1 (some .int) 0 := ⟨tb_at 200 (by rfl) (by rfl), tb_at 201 (by rfl) (by rfl), tb_at 161 (by rfl) (by rfl), tb_at 202 (by rfl) (by rfl), rfl, by decide +kernel, by decide +kernel, by decide +kernel⟩
set_option maxRecDepth 100000 in
theorem cv_Chr : cv_ok yChr_ "java/lang/String" prog_16_method_56_code 2 (some .char) 1 := ⟨tb_at 210 (by rfl) (by rfl), tb_at 211 (by rfl) (by rfl), tb_at 161 (by rfl) (by rfl), tb_at 212 (by rfl) (by rfl), rfl, by decide +kernel, by decide +kernel, by decide +kernel⟩
set_option maxRecDepth 100000 in
theorem cs_Chk : cs_ok yChk_ prog_16_method_155_code 2 none 2 := ⟨tb_at 221 (by rfl) (by rfl), tb_at 161 (by rfl) (by rfl), tb_at 222 (by rfl) (by rfl), by decide +kernel, by decide +kernel, by decide +kernel⟩
set_option maxRecDepth 100000 in
theorem cs_Pre : cs_ok yPre_ prog_21_method_11_code 3 (some .int) 3 := ⟨tb_at 226 (by rfl) (by rfl), tb_at 163 (by rfl) (by rfl), tb_at 227 (by rfl) (by rfl), by decide +kernel, by decide +kernel, by decide +kernel⟩
set_option maxRecDepth 100000 in
theorem cs_Lch : cs_ok yLch_ prog_17_method_2_code 2 (some .char) 2 := ⟨tb_at 218 (by rfl) (by rfl), tb_at 162 (by rfl) (by rfl), tb_at 219 (by rfl) (by rfl), by decide +kernel, by decide +kernel, by decide +kernel⟩
theorem zh_ (sz : Int) (a b : Nat) : (sz - sz).toNat ≤ a ∧ 2000 * (sz - sz).toNat ≤ b := by rw [z0_]; exact ⟨Nat.zero_le _, Nat.zero_le _⟩
theorem c_Cod (l : Launch) {E : En_} {sz : Int} {v : V_} {aK aV : Nat} : Met l yCod_ [.code yCod_ prog_16_method_152_code 1 (some .byte)] (rm_ 0 0) (PcT_ E sz v aK aV [(3, (aK : Int))]) (Qc_ E sz 0 0 v) 0 0 (fun q => E.1 < q) := by
  refine met_GT0 "java/lang/String" (by decide +kernel) rfl (Nat.le_of_ble_eq_true rfl) ?_
  intro p e s m args below meth c C hA hS hr hlk hin
  refine g_scs C hS kjS (by decide +kernel : decode prog_16_method_152_code 0 = .ok (.getstatic 38, 3)) ?_
  refine g_if_eq C 13 (by decide +kernel : decode prog_16_method_152_code 3 = .ok (.ifCond .eq 10, 3)) rfl (fun h => absurd h (by decide)) (fun h => ?_)
  refine g_aload3 C (f := 0) (by decide +kernel : decode prog_16_method_152_code 6 = .ok (.aload_n 0, 1)) 0 rfl ?_
  refine g_scod C hS kjC (by decide +kernel : decode prog_16_method_152_code 7 = .ok (.getfield 15, 3)) ?_
  refine g_goto C 14 (by decide +kernel : decode prog_16_method_152_code 10 = .ok (.goto 4, 3)) rfl ?_
  exact g_cret C (by decide +kernel : decode prog_16_method_152_code 14 = .ok (.ireturn, 1)) hr hlk (fun X hX => by have e : X = 0 := Int32.toInt_inj.mp hX; subst e; rfl)
theorem c_Lat (l : Launch) {E : En_} {sz : Int} {v : V_} {aK aV : Nat} : Met l yLat_ [.code yLat_ prog_16_method_154_code 1 (some .boolean)] (rm_ 0 0) (PcT_ E sz v aK aV [(3, (aK : Int))]) (Qc_ E sz 0 1 v) 0 0 (fun q => E.1 < q) := by
  refine met_GT0 "java/lang/String" (by decide +kernel) rfl (Nat.le_of_ble_eq_true rfl) ?_
  intro p e s m args below meth c C hA hS hr hlk hin
  refine g_scs C hS kjS (by decide +kernel : decode prog_16_method_154_code 0 = .ok (.getstatic 38, 3)) ?_
  refine g_if_eq C 17 (by decide +kernel : decode prog_16_method_154_code 3 = .ok (.ifCond .eq 14, 3)) rfl (fun h => absurd h (by decide)) (fun h => ?_)
  refine g_aload3 C (f := 0) (by decide +kernel : decode prog_16_method_154_code 6 = .ok (.aload_n 0, 1)) 0 rfl ?_
  refine g_scod C hS kjC (by decide +kernel : decode prog_16_method_154_code 7 = .ok (.getfield 15, 3)) ?_
  refine g_if_ne C 17 (by decide +kernel : decode prog_16_method_154_code 10 = .ok (.ifCond .ne 7, 3)) rfl (fun h => absurd rfl h) (fun h => ?_)
  refine g_iconst C (n := 1) (by decide +kernel : decode prog_16_method_154_code 13 = .ok (.iconst 1, 1)) (by decide) ?_
  refine g_goto C 18 (by decide +kernel : decode prog_16_method_154_code 14 = .ok (.goto 4, 3)) rfl ?_
  exact g_zret C (by decide +kernel : decode prog_16_method_154_code 18 = .ok (.ireturn, 1)) hr hlk (Or.inr rfl)
theorem c_Len (l : Launch) {E : En_} {sz : Int} {v : V_} {aK aV : Nat} : Met l yLen_ [.code yLen_ prog_16_method_54_code 1 (some .int)] (rm_ 1 20) (PcT_ E sz v aK aV [(3, (aK : Int))]) (Qc_ E sz 0 67 v) 0 0 (fun q => E.1 < q) := by
  refine met_GT0 "java/lang/String" (by decide +kernel) rfl (Nat.le_of_ble_eq_true rfl) ?_
  intro p e s m args below meth c C hA hS hr hlk hin
  refine g_aload3 C (f := 0) (by decide +kernel : decode prog_16_method_54_code 0 = .ok (.aload_n 0, 1)) 0 rfl ?_
  refine g_sval C hS kjV (by decide +kernel : decode prog_16_method_54_code 1 = .ok (.getfield 9, 3)) ?_
  refine g_slen C hS (by decide +kernel : decode prog_16_method_54_code 4 = .ok (.arraylength, 1)) ?_
  refine g_aload3 C (f := 0) (by decide +kernel : decode prog_16_method_54_code 5 = .ok (.aload_n 0, 1)) 0 rfl ?_
  refine g_cSt C hA hS [] (c_Cod l) kjm335 cv_Cod rfl (by decide) rfl rfl (Int.le_refl _) (zh_ sz _ _) (Nat.le_of_ble_eq_true rfl) (by decide +kernel : decode prog_16_method_54_code 6 = .ok (.invokevirtual 335, 3)) ?_
  refine g_ishr C (by decide +kernel : decode prog_16_method_54_code 9 = .ok (.ishr, 1)) ?_
  refine g_set C (x' := 67) (by decide +kernel) ?_
  exact g_iret C (by decide +kernel : decode prog_16_method_54_code 10 = .ok (.ireturn, 1)) hr hlk
theorem c_Pre (l : Launch) {E : En_} {sz i n : Int} {v : V_} {aK aV : Nat} {a : AV_} (ha : a.1 = 2 ∨ a.1 = 3) (hi : 0 ≤ i ∧ i < n) : Met l yPre_ [.code yPre_ prog_21_method_11_code 3 (some .int)] (rm_ 0 0) (PcT_ E sz v aK aV [(0, i), (0, n), a]) (Qc_ E sz 0 i v) 0 0 (fun q => E.1 < q) := by
  refine met_GT0 "jdk/internal/util/Preconditions" (by decide +kernel) rfl ?_ ?_
  · unfold ls_
    rcases ha with h | h <;> simp [h]
  intro p e s m args below meth c C hA hS hr hlk hin
  refine g_iload_n C (f := 0) (by decide +kernel : decode prog_21_method_11_code 0 = .ok (.iload_n 0, 1)) 0 rfl ?_
  refine g_if_lt C 9 (by decide +kernel : decode prog_21_method_11_code 1 = .ok (.ifCond .lt 8, 3)) rfl (fun h => absurd h (by omega)) (fun h => ?_)
  refine g_iload_n C (f := 0) (by decide +kernel : decode prog_21_method_11_code 4 = .ok (.iload_n 0, 1)) 0 rfl ?_
  refine g_iload_n C (f := 1) (by decide +kernel : decode prog_21_method_11_code 5 = .ok (.iload_n 1, 1)) 1 rfl ?_
  refine g_icmp_lt C 16 (by decide +kernel : decode prog_21_method_11_code 6 = .ok (.if_icmp .lt 10, 3)) rfl (fun h => ?_) (fun h => absurd hi.2 h)
  refine g_iload_n C (f := 0) (by decide +kernel : decode prog_21_method_11_code 16 = .ok (.iload_n 0, 1)) 0 rfl ?_
  exact g_iret C (by decide +kernel : decode prog_21_method_11_code 17 = .ok (.ireturn, 1)) hr hlk
theorem c_Chk (l : Launch) {E : En_} {sz i n : Int} {v : V_} {aK aV : Nat} (hi : 0 ≤ i ∧ i < n) : Met l yChk_ [.code yChk_ prog_16_method_155_code 2 none] (rm_ 1 22) (PcT_ E sz v aK aV [(0, i), (0, n)]) (Qc_ E sz 9 0 v) 0 0 (fun q => E.1 < q) := by
  refine met_GT0 "java/lang/String" (by decide +kernel) rfl (Nat.le_of_ble_eq_true rfl) ?_
  intro p e s m args below meth c C hA hS hr hlk hin
  refine g_iload_n C (f := 0) (by decide +kernel : decode prog_16_method_155_code 0 = .ok (.iload_n 0, 1)) 0 rfl ?_
  refine g_iload_n C (f := 1) (by decide +kernel : decode prog_16_method_155_code 1 = .ok (.iload_n 1, 1)) 1 rfl ?_
  refine g_sfm C hS kjF (by decide +kernel : decode prog_16_method_155_code 2 = .ok (.getstatic 1053, 3)) (fun a ha => ?_)
  refine g_cStS C hA hS [(0, i), (0, n), a] (c_Pre l ha hi) kjm1059 cs_Pre rfl (by decide) rfl rfl (Int.le_refl _) (zh_ sz _ _) (Nat.le_of_ble_eq_true rfl) (by decide +kernel : decode prog_16_method_155_code 5 = .ok (.invokestatic 1059, 3)) ?_
  refine g_pop C (Nat.ne_of_beq_eq_false rfl) (by decide +kernel : decode prog_16_method_155_code 8 = .ok (.pop, 1)) ?_
  exact g_vret C (by decide +kernel : decode prog_16_method_155_code 9 = .ok (.return_, 1)) hr hlk
theorem sb_ok {i : Int} (hi : 0 ≤ i ∧ i < 67) : bA_ (sb_ i) 255 = sb_ i ∧ 0 ≤ sb_ i ∧ sb_ i < 128 := by
  have h : ∀ j : Nat, j < 67 → bA_ (sbL_.getD j 0) 255 = sbL_.getD j 0 ∧ 0 ≤ sbL_.getD j 0 ∧ sbL_.getD j 0 < 128 := by decide +kernel
  exact h i.toNat (by omega)
theorem narrow_c {X : Int32} (h : 0 ≤ X.toInt ∧ X.toInt < 65536) : narrow .char (.int X) = .int X := by
  have e : X = nI X.toInt.toNat := by
    apply Int32.toInt_inj.mp
    rw [nI_toInt (by omega)]
    omega
  rw [e]
  exact (pk_charN (by omega)).1
theorem c_Lch (l : Launch) {E : En_} {sz i : Int} {v : V_} {aK aV : Nat} (hi : 0 ≤ i ∧ i < 67) : Met l yLch_ [.code yLch_ prog_17_method_2_code 2 (some .char)] (rm_ 2 43) (PcT_ E sz v aK aV [(3, (aV : Int)), (0, i)]) (Qc_ E sz 0 (sb_ i) v) 0 0 (fun q => E.1 < q) := by
  refine met_GT0 "java/lang/StringLatin1" (by decide +kernel) rfl (Nat.le_of_ble_eq_true rfl) ?_
  intro p e s m args below meth c C hA hS hr hlk hin
  have hb := sb_ok hi
  refine g_iload_n C (f := 1) (by decide +kernel : decode prog_17_method_2_code 0 = .ok (.iload_n 1, 1)) 1 rfl ?_
  refine g_aload3 C (f := 0) (by decide +kernel : decode prog_17_method_2_code 1 = .ok (.aload_n 0, 1)) 0 rfl ?_
  refine g_slen C hS (by decide +kernel : decode prog_17_method_2_code 2 = .ok (.arraylength, 1)) ?_
  refine g_cStS C hA hS [(0, i), (0, 67)] (c_Chk l hi) kjm9 cs_Chk rfl (by decide) rfl rfl (Int.le_refl _) (zh_ sz _ _) (Nat.le_of_ble_eq_true rfl) (by decide +kernel : decode prog_17_method_2_code 3 = .ok (.invokestatic 9, 3)) ?_
  refine g_aload3 C (f := 0) (by decide +kernel : decode prog_17_method_2_code 6 = .ok (.aload_n 0, 1)) 0 rfl ?_
  refine g_iload_n C (f := 1) (by decide +kernel : decode prog_17_method_2_code 7 = .ok (.iload_n 1, 1)) 1 rfl ?_
  refine g_sbald C hS hi (by decide +kernel : decode prog_17_method_2_code 8 = .ok (.baload, 1)) ?_
  refine g_sipush C (n := 255) (by decide +kernel : decode prog_17_method_2_code 9 = .ok (.sipush 255, 3)) (by decide) ?_
  refine g_iand C (by decide +kernel : decode prog_17_method_2_code 12 = .ok (.iand, 1)) ?_
  refine g_set C (x' := sb_ i) hb.1.symm ?_
  refine g_i2c C (by omega) (by decide +kernel : decode prog_17_method_2_code 13 = .ok (.i2c, 1)) ?_
  exact g_cret C (by decide +kernel : decode prog_17_method_2_code 14 = .ok (.ireturn, 1)) hr hlk (fun X hX => narrow_c (by omega))
theorem c_Chr (l : Launch) {E : En_} {sz i : Int} {v : V_} {aK aV : Nat} (hi : 0 ≤ i ∧ i < 67) : Met l yChr_ [.code yChr_ prog_16_method_56_code 2 (some .char)] (rm_ 3 64) (PcT_ E sz v aK aV [(3, (aK : Int)), (0, i)]) (Qc_ E sz 0 (sb_ i) v) 0 0 (fun q => E.1 < q) := by
  refine met_GT0 "java/lang/String" (by decide +kernel) rfl (Nat.le_of_ble_eq_true rfl) ?_
  intro p e s m args below meth c C hA hS hr hlk hin
  have hb := sb_ok hi
  refine g_aload3 C (f := 0) (by decide +kernel : decode prog_16_method_56_code 0 = .ok (.aload_n 0, 1)) 0 rfl ?_
  refine g_cSt C hA hS [] (c_Lat l) kjm492 cv_Lat rfl (by decide) rfl rfl (Int.le_refl _) (zh_ sz _ _) (Nat.le_of_ble_eq_true rfl) (by decide +kernel : decode prog_16_method_56_code 1 = .ok (.invokevirtual 492, 3)) ?_
  refine g_if_eq C 16 (by decide +kernel : decode prog_16_method_56_code 4 = .ok (.ifCond .eq 12, 3)) rfl (fun h => absurd h (by decide)) (fun h => ?_)
  refine g_aload3 C (f := 0) (by decide +kernel : decode prog_16_method_56_code 7 = .ok (.aload_n 0, 1)) 0 rfl ?_
  refine g_sval C hS kjV (by decide +kernel : decode prog_16_method_56_code 8 = .ok (.getfield 9, 3)) ?_
  refine g_iload_n C (f := 1) (by decide +kernel : decode prog_16_method_56_code 11 = .ok (.iload_n 1, 1)) 1 rfl ?_
  refine g_cStS C hA hS [(3, (aV : Int)), (0, i)] (c_Lch l hi) kjm495 cs_Lch rfl (by decide) rfl rfl (Int.le_refl _) (zh_ sz _ _) (Nat.le_of_ble_eq_true rfl) (by decide +kernel : decode prog_16_method_56_code 12 = .ok (.invokestatic 495, 3)) ?_
  exact g_cret C (by decide +kernel : decode prog_16_method_56_code 15 = .ok (.ireturn, 1)) hr hlk (fun X hX => narrow_c (by omega))
