/-! the one String constant, and the JDK's methods on it -/
def sbL_ : List Int := [117, 110, 105, 116, 115, 32, 98, 108, 111, 99, 107, 32, 115, 117, 109, 115, 32, 104, 97, 114, 100, 32, 99, 101, 108, 108, 115, 32, 106, 117, 109, 112, 115, 32, 97, 116, 32, 103, 111, 116, 111, 32, 105, 102, 32, 101, 108, 115, 101, 32, 115, 116, 111, 112, 32, 97, 32, 98, 32, 99, 32, 100, 32, 101, 32, 102, 32]
def sb_ (j : Int) : Int := sbL_.getD j.toNat 0
def SA_ (E : En_) : Nat → Prop := fun q => E.1 < q
def KS_ (E : En_) (aK aV : Nat) (s : State) : Prop := va_O "java/lang/String" aK (SA_ E) s E.2.1 ∧ va_OF "java/lang/String" "coder" "B" (.int 0) aK (SA_ E) s E.2.1 ∧ va_OF "java/lang/String" "value" "[B" (.ref aV) aK (SA_ E) s E.2.1 ∧ va_T .byte aV 67 (fun j => .int (Int32.ofInt (sbL_.getD j 0))) (SA_ E) s E.2.1 ∧ va_Z "java/lang/String" "COMPACT_STRINGS" "Z" (.int 1) (SA_ E) s E.2.1 ∧ (∃ z, va_Z "jdk/internal/util/Preconditions" "SIOOBE_FORMATTER" "Ljava/util/function/BiFunction;" z (SA_ E) s E.2.1 ∧ (z = .null ∨ ∃ a, z = .ref a)) ∧ vk_R "TraceDesk$Tokens" 25 "units block sums hard cells jumps at goto if else stop a b c d e f " aK s
theorem KS_.moved {E : En_} {aK aV : Nat} {s U : State} (hW : s.WarmedH U.vm) (h : KS_ E aK aV s) : KS_ E aK aV U := by
  obtain ⟨h1, h2, h3, h4, h5, ⟨z, h6, h7⟩, h8⟩ := h
  exact ⟨h1.moved hW.alike, h2.moved hW.alike, h3.moved hW.alike, h4.moved hW.alike, h5.moved hW.alike, ⟨z, h6.moved hW.alike, h7⟩, h8.warm hW⟩
theorem old_at {E : En_} {v : V_} {sz : Int} {H : Heap} {q : Nat} {cell : Cell} (hI : In_ E v sz H) (h : E.2.1[q]? = some cell) (hA : ¬ SA_ E q) : H[q]? = some cell := by
  rw [hI.2.2.1 q (Nat.not_lt.mp hA)]
  exact h
def PcT_ (E : En_) (sz : Int) (v : V_) (aK aV : Nat) (as : List AV_) : Array Value → State → Prop := fun a U => PcA_ E sz v as a U ∧ KS_ E aK aV U
theorem PcT_blind (E : En_) (sz : Int) (v : V_) (aK aV : Nat) (as : List AV_) : FrameBlind (PcT_ E sz v aK aV as) := fun a U g mk h => ⟨PcA_blind E sz v as a U g mk h.1, KS_.moved (s := U) (U := U.calling g mk a) (State.WarmedH.refl U) h.2⟩
theorem met_GT {l : Launch} {y : MethodName} {cc : ByteArray} {maxL : Nat} {ret : Option FieldType} {rm : Room} {E : En_} {sz : Int} {K : Nat} {v v' : V_} {as : List AV_} {rk aK aV : Nat} {r : Int} (own : String) (hy : plainName y.cls = true) (ho : y.cls = own) (hls : ls_ as ≤ maxL)
    (body : ∀ p e s m args below meth c, MC_ E p s m c cc maxL own → KA_ s → KS_ E aK aV s → meth.sig.returnType = ret → meth.locks = false → meth.name = y.name → G_ E p l e rm s m args below meth c maxL sz (Q_ E below args s sz (sz + K) rk r v') 0 (la_ 0 as) [] v sz) : Met l y [.code y cc maxL ret] rm (PcT_ E sz v aK aV as) (Qc_ E (sz + K) rk r v') K (2000 * K) (fun q => E.1 < q) := by
  refine Met.ofW (cc := cc) (maxL := maxL) (ret := ret) hy rfl ?_
  intro p e s m args below meth c s₁ B hml hv
  obtain ⟨⟨⟨⟨zs, rfl, hso⟩, hK, hI⟩, hA⟩, hS⟩ := hv
  have hown : s.vm.findClass own = some m.cls := ho ▸ findClass_of_methodNamed B.named
  have hin : meth.name = y.name := (name_of_methodNamed B.named B.method).1
  have h1 := body p e s m zs.toArray below meth c ⟨B.exec, B.bytes, hml, hown, hK⟩ hA hS B.returns B.notSynchronized hin s.heap [] _ [] hI (fun q hq => by cases hq) ⟨lv_args 0 zs, lv_entry zs (n := maxL) (by rw [sl_len hso]; exact hls), ml_args 0 hso⟩ rfl
  rw [lg_entry_eq]
  have e : (sz - sz).toNat = 0 := by omega
  rw [e] at h1
  unfold Q_ at h1
  have e2 : (sz + (K : Int) - sz).toNat = K := by omega
  rw [e2] at h1
  exact h1
section GSR
variable {E : En_} {p : Program} {l : Launch} {e : Env} {R : Room} {s : State} {m : MethodId} {args : Array Value} {below : List Frame} {meth : Method} {c : Code} {nL : Nat} {sz0 sz : Int} {Q : State → Prop} {cc : ByteArray} {own : String} {pc : Nat} {ls ls' : List (Nat × AV_)} {st : List AV_} {v : V_} {x y i : Int} {aK aV : Nat}
theorem g_aload3 (C : MC_ E p s m c cc nL own) {f : Fin 4} (hd : decode cc pc = .ok (.aload_n f, 1)) (k : Nat) (hk : ls[k]? = some (f.val, (3, x))) (kk : G_ E p l e R s m args below meth c nL sz0 Q (pc + 1) ls ((3, x) :: st) v sz) : G_ E p l e R s m args below meth c nL sz0 Q pc ls st v sz := fun H locs lr sr hI hL hl hs => by
  obtain ⟨z, e1, e2⟩ := lo_at hl k hk
  have e2 : z = .ref x.toNat := e2
  subst e2
  exact lv_aload_n C.1 C.2.1 hd rfl e1 (kk H locs lr _ hI hL hl ⟨_, _, rfl, rfl, hs⟩)
theorem g_sval (C : MC_ E p s m c cc nL own) (hS : KS_ E aK aV s) {index : Nat} (hw : Cond.fieldLink own index "java/lang/String" "value" "[B" ∈ tb_) (hd : decode cc pc = .ok (.getfield index, 3)) (kk : G_ E p l e R s m args below meth c nL sz0 Q (pc + 3) ls ((3, (aV : Int)) :: st) v sz) : G_ E p l e R s m args below meth c nL sz0 Q pc ls ((3, (aK : Int)) :: st) v sz := fun H locs lr sr hI hL hl hs => by
  obtain ⟨_, zr, rfl, h0, hs⟩ := hs
  have h0 : _ = Value.ref aK := h0
  subst h0
  obtain ⟨cf, k, fi, f, cell, h1, h2, h3, h4, h5, h6⟩ := hS.2.2.1
  exact W.getf C.1 C.2.1 C.2.2.2.1 (C.2.2.2.2.at args _ hw) h1 h2 (old_at hI h3 h6) h4 (v := .ref aV) h5 rfl rfl hd (kk H locs lr _ hI hL hl ⟨_, _, rfl, rfl, hs⟩)
theorem g_scod (C : MC_ E p s m c cc nL own) (hS : KS_ E aK aV s) {index : Nat} (hw : Cond.fieldLink own index "java/lang/String" "coder" "B" ∈ tb_) (hd : decode cc pc = .ok (.getfield index, 3)) (kk : G_ E p l e R s m args below meth c nL sz0 Q (pc + 3) ls ((0, 0) :: st) v sz) : G_ E p l e R s m args below meth c nL sz0 Q pc ls ((3, (aK : Int)) :: st) v sz := fun H locs lr sr hI hL hl hs => by
  obtain ⟨_, zr, rfl, h0, hs⟩ := hs
  have h0 : _ = Value.ref aK := h0
  subst h0
  obtain ⟨cf, k, fi, f, cell, h1, h2, h3, h4, h5, h6⟩ := hS.2.1
  exact W.getf C.1 C.2.1 C.2.2.2.1 (C.2.2.2.2.at args _ hw) h1 h2 (old_at hI h3 h6) h4 (v := .int 0) h5 rfl rfl hd (kk H locs lr _ hI hL hl ⟨_, _, rfl, ⟨0, rfl, rfl⟩, hs⟩)
theorem g_scs (C : MC_ E p s m c cc nL own) (hS : KS_ E aK aV s) {index : Nat} (hw : Cond.fieldLink own index "java/lang/String" "COMPACT_STRINGS" "Z" ∈ tb_) (hd : decode cc pc = .ok (.getstatic index, 3)) (kk : G_ E p l e R s m args below meth c nL sz0 Q (pc + 3) ls ((0, 1) :: st) v sz) : G_ E p l e R s m args below meth c nL sz0 Q pc ls st v sz := fun H locs lr sr hI hL hl hs => by
  obtain ⟨cf, kf, fi, f, a, cell, h1, h2, h3, h4, h5, h6, h7, h8⟩ := hS.2.2.2.2.1
  exact W.gets C.1 C.2.1 C.2.2.2.1 (C.2.2.2.2.at args _ hw) h1 h2 h3 h4 (old_at hI h5 h8) (fun e => by rw [e] at h6; cases h6) h7 rfl hd (kk H locs lr _ hI hL hl ⟨_, _, rfl, ⟨1, rfl, rfl⟩, hs⟩)
theorem g_sfm (C : MC_ E p s m c cc nL own) (hS : KS_ E aK aV s) {index : Nat} (hw : Cond.fieldLink own index "jdk/internal/util/Preconditions" "SIOOBE_FORMATTER" "Ljava/util/function/BiFunction;" ∈ tb_) (hd : decode cc pc = .ok (.getstatic index, 3)) (kk : ∀ a : AV_, a.1 = 2 ∨ a.1 = 3 → G_ E p l e R s m args below meth c nL sz0 Q (pc + 3) ls (a :: st) v sz) : G_ E p l e R s m args below meth c nL sz0 Q pc ls st v sz := fun H locs lr sr hI hL hl hs => by
  obtain ⟨z, ⟨cf, kf, fi, f, a, cell, h1, h2, h3, h4, h5, h6, h7, h8⟩, hz⟩ := hS.2.2.2.2.2.1
  rcases hz with rfl | ⟨b, rfl⟩
  · exact W.gets C.1 C.2.1 C.2.2.2.1 (C.2.2.2.2.at args _ hw) h1 h2 h3 h4 (old_at hI h5 h8) (fun e => by rw [e] at h6; cases h6) h7 rfl hd (kk (2, 0) (Or.inl rfl) H locs lr _ hI hL hl ⟨_, _, rfl, Or.inl ⟨rfl, rfl⟩, hs⟩)
  · exact W.gets C.1 C.2.1 C.2.2.2.1 (C.2.2.2.2.at args _ hw) h1 h2 h3 h4 (old_at hI h5 h8) (fun e => by rw [e] at h6; cases h6) h7 rfl hd (kk (3, (b : Int)) (Or.inr rfl) H locs lr _ hI hL hl ⟨_, _, rfl, rfl, hs⟩)
theorem g_slen (C : MC_ E p s m c cc nL own) (hS : KS_ E aK aV s) (hd : decode cc pc = .ok (.arraylength, 1)) (kk : G_ E p l e R s m args below meth c nL sz0 Q (pc + 1) ls ((0, 67) :: st) v sz) : G_ E p l e R s m args below meth c nL sz0 Q pc ls ((3, (aV : Int)) :: st) v sz := fun H locs lr sr hI hL hl hs => by
  obtain ⟨_, zr, rfl, h0, hs⟩ := hs
  have h0 : _ = Value.ref aV := h0
  subst h0
  obtain ⟨cell, h1, h2, h3, h4, h5, h6, h7⟩ := hS.2.2.2.1
  exact W.alen (n := Int32.ofNat 67) C.1 C.2.1 (old_at hI h1 h7) h2 h5 rfl rfl hd (kk H locs lr _ hI hL hl ⟨_, _, rfl, ⟨_, rfl, rfl⟩, hs⟩)
theorem g_sbald (C : MC_ E p s m c cc nL own) (hS : KS_ E aK aV s) (hi : 0 ≤ i ∧ i < 67) (hd : decode cc pc = .ok (.baload, 1)) (kk : G_ E p l e R s m args below meth c nL sz0 Q (pc + 1) ls ((0, sb_ i) :: st) v sz) : G_ E p l e R s m args below meth c nL sz0 Q pc ls ((0, i) :: (3, (aV : Int)) :: st) v sz := fun H locs lr sr hI hL hl hs => by
  obtain ⟨_, _, rfl, ⟨X, rfl, rfl⟩, _, zr, rfl, h0, hs⟩ := hs
  have h0 : _ = Value.ref aV := h0
  subst h0
  obtain ⟨cell, h1, h2, h3, h4, h5, h6, h7⟩ := hS.2.2.2.1
  obtain ⟨b1, b2, b3⟩ := inI (n := 67) (X := X) hi
  have hin' : ¬ (X < 0 ∨ cell.slots.size ≤ X.toNatClampNeg) := fun q => by
    rcases q with q | q
    · exact b1 (Or.inl q)
    · omega
  refine W.bald (v := .int (Int32.ofInt (sbL_.getD X.toInt.toNat 0))) C.1 C.2.1 (old_at hI h1 h7) h2 h3 hin' (by rw [b2]; exact h6 _ b3) rfl rfl hd (kk H locs lr _ hI hL hl ⟨_, _, rfl, ⟨_, rfl, ?_⟩, hs⟩)
  have hk : ∀ j : Nat, j < 67 → (Int32.ofInt (sbL_.getD j 0)).toInt = sbL_.getD j 0 := by decide +kernel
  exact hk _ b3
theorem g_i2c (C : MC_ E p s m c cc nL own) (hx : 0 ≤ x ∧ x < 65536) (hd : decode cc pc = .ok (.i2c, 1)) (kk : G_ E p l e R s m args below meth c nL sz0 Q (pc + 1) ls ((0, x) :: st) v sz) : G_ E p l e R s m args below meth c nL sz0 Q pc ls ((0, x) :: st) v sz := fun H locs lr sr hI hL hl hs => by
  obtain ⟨_, zr, rfl, ⟨X, rfl, rfl⟩, hs⟩ := hs
  refine lv_i2c C.1 C.2.1 hd rfl (kk H locs lr _ hI hL hl ⟨_, _, rfl, ⟨_, rfl, ?_⟩, hs⟩)
  rw [pk_char, nI_toInt (by omega)]
  have e : (X.toBitVec.toNat : Int) = X.toInt := by
    have h1 : X.toInt = X.toBitVec.toInt := rfl
    rw [h1, BitVec.toInt_eq_toNat_cond]
    have h2 := X.toBitVec.isLt
    rw [h1, BitVec.toInt_eq_toNat_cond] at hx
    split
    · rfl
    · rename_i h3
      rw [if_neg h3] at hx
      omega
  omega
theorem g_cret (C : MC_ E p s m c cc nL own) {ty : FieldType} (hd : decode cc pc = .ok (.ireturn, 1)) (hr : meth.sig.returnType = some ty) (hlk : meth.locks = false) (hn : ∀ X : Int32, X.toInt = x → narrow ty (.int X) = .int X) : G_ E p l e R s m args below meth c nL sz0 (Q_ E below args s sz0 sz 0 x v) pc ls [(0, x)] v sz := fun H locs lr sr hI hL hl hs => by
  obtain ⟨_, zr, rfl, ⟨X, rfl, ex⟩, hs⟩ := hs
  have hs : zr = [] := hs
  subst hs
  exact W.zret C.1 C.2.1 hr (hn X ex) (fun t ht hW => ⟨⟨_, rfl, _, rfl, X, rfl, ex⟩, by rw [ht]; exact hI⟩) hL hd hlk
theorem g_pop3 (C : MC_ E p s m c cc nL own) {a : AV_} (ha : a.1 ≠ 1) (hd : decode cc pc = .ok (.pop, 1)) (kk : G_ E p l e R s m args below meth c nL sz0 Q (pc + 1) ls st v sz) : G_ E p l e R s m args below meth c nL sz0 Q pc ls (a :: st) v sz := g_pop C ha hd kk
theorem g_ldcS (C : MC_ E p s m c cc nL "TraceDesk$Tokens") (hS : KS_ E aK aV s) (hd : decode cc pc = .ok (.ldc 25, 2)) (kk : G_ E p l e R s m args below meth c nL sz0 Q (pc + 2) ls ((3, (aK : Int)) :: st) v sz) : G_ E p l e R s m args below meth c nL sz0 Q pc ls st v sz := fun H locs lr sr hI hL hl hs =>
  va_ldcS C.1 C.2.1 C.2.2.2.1 hS.2.2.2.2.2.2 hd (kk H locs lr _ hI hL hl ⟨_, _, rfl, rfl, hs⟩)
/-- an instance method of the String -/
theorem g_cSt (C : MC_ E p s m c cc nL own) (hA : KA_ s) (hS : KS_ E aK aV s) {maxL index n rk : Nat} {yy : MethodName} {bytes : ByteArray} {ret : Option FieldType} {rm : Room} {r : Int} (as : List AV_) (hM : Met l yy [.code yy bytes maxL ret] rm (PcT_ E sz v aK aV ((3, (aK : Int)) :: as)) (Qc_ E sz rk r v) 0 0 (fun q => E.1 < q)) (w1 : Cond.methodLink own index yy ∈ tb_) (ok : cv_ok yy "java/lang/String" bytes maxL ret n) (hn : as.length = n)
    (hR : rm.frames + 1 ≤ R.frames ∧ 8 + (maxL + 11) + rm.locals ≤ R.locals) (hrc : rm.cells = 0) (hrs : rm.slots = 0) (hz : sz0 ≤ sz) (hf : (sz - sz0).toNat ≤ R.cells ∧ 2000 * (sz - sz0).toNat ≤ R.slots) (hcat : cat_ st ≤ 8) (hd : decode cc pc = .ok (.invokevirtual index, 3)) (kk : G_ E p l e R s m args below meth c nL sz0 Q (pc + 3) ls (rs_ rk r st) v sz) : G_ E p l e R s m args below meth c nL sz0 Q pc ls (as.reverse ++ (3, (aK : Int)) :: st) v sz := fun H locs lr sr hI hL hl hs => by
  obtain ⟨w2, w3, w4, w5, hd0⟩ := ok
  obtain ⟨zA, zB, rfl, hA1, hB⟩ := so_app hs
  obtain ⟨_, zr, rfl, h1, hs2⟩ := hB
  have h1 : _ = Value.ref aK := h1
  subst h1
  obtain ⟨cellK, q1, q2, q3, q4⟩ := hS.1
  have hKs := C.2.2.2.2
  have hts := hKs.at args
  have hT : ∀ w ∈ wsV own index "java/lang/String" yy [.code yy bytes maxL ret], w ∈ tb_ := by
    intro w hw
    simp only [wsV, List.cons_append, List.nil_append, List.mem_cons, List.not_mem_nil, or_false] at hw
    rcases hw with rfl | rfl | rfl | rfl | rfl
    · exact w1
    · exact w2
    · exact w3
    · exact w4
    · exact w5
  have hgw : (wsV own index "java/lang/String" yy [.code yy bytes maxL ret]).all goodWord = true := rfl
  have cw : CallW R s args own "java/lang/String" index yy bytes maxL ret [.code yy bytes maxL ret] rm 0 0 n := cwV (Ts := wsV own index "java/lang/String" yy [.code yy bytes maxL ret]) n (fun w hw => hts w (hT w hw)) (fun w hw => ⟨hw, good_of_word (List.all_eq_true.mp hgw w hw)⟩) rfl hrc hrs hd0 hR
  have hlen := so_len hA1
  rw [List.length_reverse] at hlen
  have hrev := so_rev hA1
  rw [List.reverse_reverse] at hrev
  have hso : so_ E.1 ((3, (aK : Int)) :: as) (Value.ref aK :: zA.reverse) := ⟨_, _, rfl, rfl, hrev⟩
  have hp : PreV s H "java/lang/String" aK (PcT_ E sz v aK aV ((3, (aK : Int)) :: as)) zA.reverse := ⟨PcT_blind E sz v aK aV _, ⟨cellK, old_at hI q1 q4, q2, q3⟩, fun U hU hW => ⟨⟨⟨⟨_, rfl, hso⟩, KK_.moved hW hKs, by rw [hU]; exact hI⟩, KA_.moved hW.alike hA⟩, KS_.moved hW hS⟩⟩
  obtain ⟨lq, hl1, hl2⟩ := id hl
  have e0 := z0_ sz
  have hrun := va_runV (l := l) (p := p) (e := e) (cells := (sz - sz0).toNat) (slots := 2000 * (sz - sz0).toNat) (below := below) (meth := meth) (locs := locs) (Ts := wsV own index "java/lang/String" yy [.code yy bytes maxL ret]) (g := F0 m pc lr (zA ++ Value.ref aK :: zr)) (rest := zr) ⟨C.1, C.2.1, C.2.2.1, C.2.2.2.1, fun w hw => hts w (hT w hw)⟩ hM cw hp rfl (by rw [List.length_reverse, hlen, hn]) hl1.1 (by rw [List.reverse_reverse]) (by rw [so_cat hs2]; show 2 * 0 + _ ≤ 8; omega) hd hf
  exact g_after (sz' := sz) (by rw [e0]; exact hrun) ⟨hz, Int.le_refl _⟩ kk hL hl hs2
/-- a static method, the String's facts handed on -/
theorem g_cStS (C : MC_ E p s m c cc nL own) (hA : KA_ s) (hS : KS_ E aK aV s) {maxL index n rk : Nat} {yy : MethodName} {bytes : ByteArray} {ret : Option FieldType} {rm : Room} {r : Int} (as : List AV_) (hM : Met l yy [.code yy bytes maxL ret] rm (PcT_ E sz v aK aV as) (Qc_ E sz rk r v) 0 0 (fun q => E.1 < q)) (w1 : Cond.methodLink own index yy ∈ tb_) (ok : cs_ok yy bytes maxL ret n) (hn : as.length = n)
    (hR : rm.frames + 1 ≤ R.frames ∧ 8 + (maxL + 11) + rm.locals ≤ R.locals) (hrc : rm.cells = 0) (hrs : rm.slots = 0) (hz : sz0 ≤ sz) (hf : (sz - sz0).toNat ≤ R.cells ∧ 2000 * (sz - sz0).toNat ≤ R.slots) (hcat : cat_ st ≤ 8) (hd : decode cc pc = .ok (.invokestatic index, 3)) (kk : G_ E p l e R s m args below meth c nL sz0 Q (pc + 3) ls (rs_ rk r st) v sz) : G_ E p l e R s m args below meth c nL sz0 Q pc ls (as.reverse ++ st) v sz := fun H locs lr sr hI hL hl hs => by
  obtain ⟨w2, w4, w5, hd0⟩ := ok
  obtain ⟨zA, zr, rfl, hA1, hs⟩ := so_app hs
  have hKs := C.2.2.2.2
  have hts := hKs.at args
  have hT : ∀ w ∈ va_wsS own index yy [.code yy bytes maxL ret], w ∈ tb_ := by
    intro w hw
    simp only [va_wsS, List.cons_append, List.nil_append, List.mem_cons, List.not_mem_nil, or_false] at hw
    rcases hw with rfl | rfl | rfl | rfl
    · exact w1
    · exact w2
    · exact w4
    · exact w5
  have hgw : (va_wsS own index yy [.code yy bytes maxL ret]).all goodWord = true := rfl
  have cw := va_cwS (R := R) (s := s) (args := args) (own := own) (Ts := va_wsS own index yy [.code yy bytes maxL ret]) (ws := [.code yy bytes maxL ret]) n (fun w hw => hts w (hT w hw)) (fun w hw => ⟨hw, good_of_word (List.all_eq_true.mp hgw w hw)⟩) rfl hrc hrs hd0 hR
  have hlen := so_len hA1
  rw [List.length_reverse] at hlen
  have hrev := so_rev hA1
  rw [List.reverse_reverse] at hrev
  have hp : PreS s H (PcT_ E sz v aK aV as) zA.reverse := ⟨PcT_blind E sz v aK aV _, fun U hU hW => ⟨⟨⟨⟨_, rfl, hrev⟩, KK_.moved hW hKs, by rw [hU]; exact hI⟩, KA_.moved hW.alike hA⟩, KS_.moved hW hS⟩⟩
  obtain ⟨lq, hl1, hl2⟩ := id hl
  have e0 := z0_ sz
  have hrun := va_runS (l := l) (p := p) (e := e) (cells := (sz - sz0).toNat) (slots := 2000 * (sz - sz0).toNat) (below := below) (meth := meth) (locs := locs) (Ts := va_wsS own index yy [.code yy bytes maxL ret]) (g := F0 m pc lr (zA ++ zr)) (rest := zr) ⟨C.1, C.2.1, C.2.2.1, C.2.2.2.1, fun w hw => hts w (hT w hw)⟩ hM cw hp rfl (by rw [List.length_reverse, hlen, hn]) hl1.1 (by rw [List.reverse_reverse]) (by rw [so_cat hs]; show 2 * 0 + _ ≤ 8; omega) hd hf
  exact g_after (sz' := sz) (by rw [e0]; exact hrun) ⟨hz, Int.le_refl _⟩ kk hL hl hs
end GSR
