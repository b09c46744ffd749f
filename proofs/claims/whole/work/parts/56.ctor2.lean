/-! calls in constructors -/
noncomputable def ckp_ {α : Type} (P : Prop) (x : Option α) : Option α := @ck_ α P (Classical.propDecidable P) x
theorem ckp_e {α : Type} {P : Prop} {x : Option α} {r : α} (h : ckp_ P x = some r) : P ∧ x = some r := @ck_e α P (Classical.propDecidable P) x r h
theorem ckp_t {α : Type} {P : Prop} {x : Option α} (h : P) : ckp_ P x = x := if_pos h
def E0_ (E : En_) (D : Int → Prop) : En_ := (E.1, E.2.1, E.2.2.1, E.2.2.2.1, E.2.2.2.2.1, D)
def St_ (D : Int → Prop) (v : V_) : Prop := ∀ a : Int, D a → ∀ (k : Nat) (o : Int), of_ (ty_ a) (ln_ a) k = some o → v a k = a + o
def Sc_ (lo sz : Int) (v : V_) : Prop := Cl_ (fun a => lo ≤ a ∧ a < sz) sz ∧ St_ (fun a => lo ≤ a ∧ a < sz) v
def rmc_ (f lo : Nat) (K : Nat) : Room := { frames := f, cells := K, slots := 2000 * K, locals := lo }
/-- arrays of the class's own kinds are known -/
def KAA_ (U : State) : Prop := ∃ (comp cA : ClassId) (kA : Class), U.vm.findClass (FieldType.array .int).toString = some comp ∧ U.vm.classes[cA]? = some kA ∧ kA.kind = .array comp (.array .int) ∧ U.vm.findClass ("[" ++ (FieldType.array .int).toString) = some cA
theorem KAA_.moved {u U : State} (hvm : u.vm.Alike U.vm) (h : KAA_ u) : KAA_ U := by
  obtain ⟨comp, cA, kA, h1, h2, h3, h4⟩ := h
  obtain ⟨k', hk', he⟩ := hvm.2.2 _ _ h2
  exact ⟨comp, cA, k', by rw [hvm.findClass]; exact h1, hk', by rw [he]; exact h3, by rw [hvm.findClass]; exact h4⟩
def KA_ (U : State) : Prop := va_AO "TraceDesk$Step" U ∧ va_AO "TraceDesk$Item" U ∧ va_AO "TraceDesk$Trace" U ∧ KAA_ U
theorem KA_.moved {u U : State} (hvm : u.vm.Alike U.vm) (h : KA_ u) : KA_ U := ⟨va_AO.moved hvm h.1, va_AO.moved hvm h.2.1, va_AO.moved hvm h.2.2.1, KAA_.moved hvm h.2.2.2⟩
def PcA_ (E : En_) (sz : Int) (v : V_) (as : List AV_) : Array Value → State → Prop := fun a U => Pc_ E sz v as a U ∧ KA_ U
theorem PcA_blind (E : En_) (sz : Int) (v : V_) (as : List AV_) : FrameBlind (PcA_ E sz v as) := fun a U g mk h => ⟨Pc_blind E sz v as a U g mk h.1, KA_.moved (u := U) (U := U.calling g mk a) (Vm.Alike.refl U.vm) h.2⟩
theorem met_GK {l : Launch} {y : MethodName} {cc : ByteArray} {maxL : Nat} {ret : Option FieldType} {rm : Room} {E : En_} {sz : Int} {K : Nat} {v v' : V_} {as : List AV_} {rk : Nat} {r : Int} (own : String) (hy : plainName y.cls = true) (ho : y.cls = own) (hls : ls_ as ≤ maxL)
    (body : ∀ p e s m args below meth c, MC_ E p s m c cc maxL own → KA_ s → meth.sig.returnType = ret → meth.locks = false → meth.name = y.name → G_ E p l e rm s m args below meth c maxL sz (Q_ E below args s sz (sz + K) rk r v') 0 (la_ 0 as) [] v sz) : Met l y [.code y cc maxL ret] rm (PcA_ E sz v as) (Qc_ E (sz + K) rk r v') K (2000 * K) (fun q => E.1 < q) := by
  refine Met.ofW (cc := cc) (maxL := maxL) (ret := ret) hy rfl ?_
  intro p e s m args below meth c s₁ B hml hv
  obtain ⟨⟨⟨zs, rfl, hso⟩, hK, hI⟩, hA⟩ := hv
  have hown : s.vm.findClass own = some m.cls := ho ▸ findClass_of_methodNamed B.named
  have hin : meth.name = y.name := (name_of_methodNamed B.named B.method).1
  have h1 := body p e s m zs.toArray below meth c ⟨B.exec, B.bytes, hml, hown, hK⟩ hA B.returns B.notSynchronized hin s.heap [] _ [] hI (fun q hq => by cases hq) ⟨lv_args 0 zs, lv_entry zs (n := maxL) (by rw [sl_len hso]; exact hls), ml_args 0 hso⟩ rfl
  rw [lg_entry_eq]
  have e : (sz - sz).toNat = 0 := by omega
  rw [e] at h1
  unfold Q_ at h1
  have e2 : (sz + (K : Int) - sz).toNat = K := by omega
  rw [e2] at h1
  exact h1
theorem cl_none {D : Int → Prop} {sz : Int} (hE : ∀ a, ¬ D a) : Cl_ D sz := fun a h => absurd h (hE a)
section GD
variable {E : En_} {p : Program} {l : Launch} {e : Env} {R : Room} {s : State} {m : MethodId} {args : Array Value} {below : List Frame} {meth : Method} {c : Code} {nL : Nat} {sz0 sz : Int} {Q : State → Prop} {cc : ByteArray} {own : String} {pc : Nat} {ls : List (Nat × AV_)} {st : List AV_} {v : V_} {x y h i : Int}
theorem g_in {D : Int → Prop} (hst : St_ D v) (kk : G_ (E0_ E D) p l e R s m args below meth c nL sz0 Q pc ls st v sz) : G_ E p l e R s m args below meth c nL sz0 Q pc ls st v sz := fun H locs lr sr hI hL hl hs =>
  kk H locs lr sr ⟨hI.1, hI.2.1, hI.2.2.1, hI.2.2.2.1, hst⟩ hL hl hs
theorem g_out {D : Int → Prop} (hE : ∀ a, ¬ E.2.2.2.2.2 a) (kk : G_ E p l e R s m args below meth c nL sz0 Q pc ls st v sz) : G_ (E0_ E D) p l e R s m args below meth c nL sz0 Q pc ls st v sz := fun H locs lr sr hI hL hl hs =>
  kk H locs lr sr ⟨hI.1, hI.2.1, hI.2.2.1, hI.2.2.2.1, fun a ha => absurd ha (hE a)⟩ hL hl hs
theorem g_callI (C : MC_ E p s m c cc nL own) {maxL index K : Nat} {yy : MethodName} {bytes : ByteArray} {rm : Room} {r : Int} {v' : V_} (hA : KA_ s) (hM : Met l yy [.code yy bytes maxL none] rm (PcA_ E sz v [(2, h)]) (Qc_ E (sz + K) 9 r v') K (2000 * K) (fun q => E.1 < q)) (hr : 0 < h ∧ h < sz)
    (w1 : Cond.methodLink own index yy ∈ tb_) (w2 : Cond.instanceMethod yy ∈ tb_) (w4 : Cond.initialized yy.cls ∈ tb_) (w5 : Cond.code yy bytes maxL none ∈ tb_) (hd0 : yy.cls ≠ "java/lang/invoke/MethodHandle" ∧ yy.cls ≠ "java/lang/invoke/VarHandle" ∧ (parseMethodDescriptor yy.desc).map (fun d => d.parameters.length) = some 0) (hnm : yy.name = "<init>")
    (hR : rm.frames + 1 ≤ R.frames ∧ 8 + (maxL + 11) + rm.locals ≤ R.locals) (hrc : rm.cells = K) (hrs : rm.slots = 2000 * K) (hz : sz0 ≤ sz) (hf : (sz - sz0).toNat + K ≤ R.cells ∧ 2000 * (sz - sz0).toNat + 2000 * K ≤ R.slots) (hcat : cat_ st ≤ 8) (hd : decode cc pc = .ok (.invokespecial index, 3)) (kk : G_ E p l e R s m args below meth c nL sz0 Q (pc + 3) ls st v' (sz + K)) : G_ E p l e R s m args below meth c nL sz0 Q pc ls ((2, h) :: st) v sz := fun H locs lr sr hI hL hl hs => by
  obtain ⟨_, zr, rfl, h1, hs2⟩ := hs
  rcases h1 with ⟨e3, rfl⟩ | ⟨e3, rfl⟩
  · omega
  have hKs := C.2.2.2.2
  have hts := hKs.at args
  have hgw : [Cond.code yy bytes maxL none].all goodWord = true := rfl
  have hT : ∀ w ∈ [Cond.code yy bytes maxL none], w.before args s = true := fun w hw => by
    rw [List.mem_singleton.mp hw]; exact hts _ w5
  have eK : (sz + (K : Int) - sz).toNat = K := by omega
  have cw := cwI (R := R) (s := s) (args := args) (own := own) (index := index) (y := yy) (bytes := bytes) (maxL := maxL) (mc := K) (ms := 2000 * K) (rm := rm) (ws := [.code yy bytes maxL none]) (Ts := [.code yy bytes maxL none]) 0 hT (fun w hw => ⟨hw, good_of_word (List.all_eq_true.mp hgw w hw)⟩) rfl hrc hrs (hts _ w4) (hts _ w1) (hts _ w2) hnm hd0 hR
  have hp : PreS s H (PcA_ E sz v [(2, h)]) (.ref (E.1 + h.toNat) :: []) := ⟨PcA_blind E sz v _, fun U hU hW => ⟨⟨⟨_, rfl, ⟨_, _, rfl, Or.inr ⟨e3, rfl⟩, rfl⟩⟩, KK_.moved hW hKs, by rw [hU]; exact hI⟩, KA_.moved hW.alike hA⟩⟩
  obtain ⟨lq, hl1, hl2⟩ := id hl
  have hrun := va_runI (l := l) (p := p) (e := e) (R := R) (s := s) (m := m) (args := args) (below := below) (meth := meth) (c := c) (H := H) (locs := locs) (cells := (sz - sz0).toNat) (slots := 2000 * (sz - sz0).toNat) (b := E.1 + h.toNat) (As := []) (Ts := [.code yy bytes maxL none]) (g := F0 m pc lr (Value.ref (E.1 + h.toNat) :: zr)) (rest := zr) ⟨C.1, C.2.1, C.2.2.1, C.2.2.2.1, hT⟩ hM cw hp rfl rfl hl1.1 rfl (by rw [so_cat hs2]; show 2 * 0 + _ ≤ 8; omega) hd hf
  have e2 : (fun q : Nat => E.1 < q) = (fun q : Nat => E.1 < q) := rfl
  refine g_after (sz' := sz + K) (rk := 9) (r := r) (v' := v') (by rw [eK]; exact hrun) ⟨hz, by omega⟩ kk hL hl hs2
theorem g_callIN (C : MC_ E p s m c cc nL own) {host : String} {maxL index K : Nat} {yy : MethodName} {bytes : ByteArray} {rm : Room} {r : Int} {v' : V_} (hA : KA_ s) (hM : Met l yy [.code yy bytes maxL none] rm (PcA_ E sz v [(2, h)]) (Qc_ E (sz + K) 9 r v') K (2000 * K) (fun q => E.1 < q)) (hr : 0 < h ∧ h < sz)
    (w1 : Cond.methodLinkNest own index yy host ∈ tb_) (w2 : Cond.instanceMethod yy ∈ tb_) (w4 : Cond.initialized yy.cls ∈ tb_) (w5 : Cond.code yy bytes maxL none ∈ tb_) (hd0 : yy.cls ≠ "java/lang/invoke/MethodHandle" ∧ yy.cls ≠ "java/lang/invoke/VarHandle" ∧ (parseMethodDescriptor yy.desc).map (fun d => d.parameters.length) = some 0) (hnm : yy.name = "<init>")
    (hR : rm.frames + 1 ≤ R.frames ∧ 8 + (maxL + 11) + rm.locals ≤ R.locals) (hrc : rm.cells = K) (hrs : rm.slots = 2000 * K) (hz : sz0 ≤ sz) (hf : (sz - sz0).toNat + K ≤ R.cells ∧ 2000 * (sz - sz0).toNat + 2000 * K ≤ R.slots) (hcat : cat_ st ≤ 8) (hd : decode cc pc = .ok (.invokespecial index, 3)) (kk : G_ E p l e R s m args below meth c nL sz0 Q (pc + 3) ls st v' (sz + K)) : G_ E p l e R s m args below meth c nL sz0 Q pc ls ((2, h) :: st) v sz := fun H locs lr sr hI hL hl hs => by
  obtain ⟨_, zr, rfl, h1, hs2⟩ := hs
  rcases h1 with ⟨e3, rfl⟩ | ⟨e3, rfl⟩
  · omega
  have hKs := C.2.2.2.2
  have hts := hKs.at args
  have hgw : [Cond.code yy bytes maxL none].all goodWord = true := rfl
  have hT : ∀ w ∈ [Cond.code yy bytes maxL none], w.before args s = true := fun w hw => by
    rw [List.mem_singleton.mp hw]; exact hts _ w5
  have eK : (sz + (K : Int) - sz).toNat = K := by omega
  have cw := va_cnB (R := R) (s := s) (args := args) (own := own) (host := host) (index := index) (y := yy) (bytes := bytes) (maxL := maxL) (ret := none) (mc := K) (ms := 2000 * K) (rm := rm) (ws := [.code yy bytes maxL none]) (Ts := [.code yy bytes maxL none]) 0 hT (fun w hw => ⟨hw, good_of_word (List.all_eq_true.mp hgw w hw)⟩) rfl hrc hrs (va_Nw.of rfl (hts _ w1)) (hts _ w4) hd0 hR
  have hp : PreS s H (PcA_ E sz v [(2, h)]) (.ref (E.1 + h.toNat) :: []) := ⟨PcA_blind E sz v _, fun U hU hW => ⟨⟨⟨_, rfl, ⟨_, _, rfl, Or.inr ⟨e3, rfl⟩, rfl⟩⟩, KK_.moved hW hKs, by rw [hU]; exact hI⟩, KA_.moved hW.alike hA⟩⟩
  obtain ⟨lq, hl1, hl2⟩ := id hl
  have hrun := va_runIN (l := l) (p := p) (e := e) (R := R) (s := s) (m := m) (args := args) (below := below) (meth := meth) (c := c) (H := H) (locs := locs) (cells := (sz - sz0).toNat) (slots := 2000 * (sz - sz0).toNat) (b := E.1 + h.toNat) (As := []) (Ts := [.code yy bytes maxL none]) (g := F0 m pc lr (Value.ref (E.1 + h.toNat) :: zr)) (rest := zr) ⟨C.1, C.2.1, C.2.2.1, C.2.2.2.1, hT⟩ hM ⟨cw, hnm, hts _ w2⟩ hp rfl rfl hl1.1 rfl (by rw [so_cat hs2]; show 2 * 0 + _ ≤ 8; omega) hd hf
  refine g_after (sz' := sz + K) (rk := 9) (r := r) (v' := v') (by rw [eK]; exact hrun) ⟨hz, by omega⟩ kk hL hl hs2
/-- a call of a method that makes nothing, in the midst of a constructor -/
theorem g_cVk (C : MC_ E p s m c cc nL own) {ci N maxL index n rk : Nat} {Cn : String} {T : u_T} {ty : Nat → FieldType} {yy : MethodName} {bytes : ByteArray} {ret : Option FieldType} {rm : Room} {r : Int} {v' : V_} (as : List AV_) (hM : Met l yy [.code yy bytes maxL ret] rm (Pc_ E sz v ((2, h) :: as)) (Qc_ E sz rk r v') 0 0 (fun q => E.1 < q)) (hc : cl_ok ci Cn T N ty) (ht : ty_ h = ci) (hr : 0 < h ∧ h < sz) (w1 : Cond.methodLink own index yy ∈ tb_) (ok : cv_ok yy Cn bytes maxL ret n) (hn : as.length = n)
    (hR : rm.frames + 1 ≤ R.frames ∧ 8 + (maxL + 11) + rm.locals ≤ R.locals) (hrc : rm.cells = 0) (hrs : rm.slots = 0) (hz : sz0 ≤ sz) (hf : (sz - sz0).toNat ≤ R.cells ∧ 2000 * (sz - sz0).toNat ≤ R.slots) (hcat : cat_ st ≤ 8) (hd : decode cc pc = .ok (.invokevirtual index, 3)) (kk : G_ E p l e R s m args below meth c nL sz0 Q (pc + 3) ls (rs_ rk r st) v' sz) : G_ E p l e R s m args below meth c nL sz0 Q pc ls (as.reverse ++ (2, h) :: st) v sz := by
  obtain ⟨w2, w3, w4, w5, hd0⟩ := ok
  have e := z0_ sz
  exact g_callV C as (by rw [e]; exact hM) hc ht hr w1 w2 w3 w4 w5 hd0 hn hR (by rw [hrc, e]) (by rw [hrs, e]) (by rw [e]; exact hf) ⟨hz, Int.le_refl _⟩ hcat hd kk
theorem g_cSk (C : MC_ E p s m c cc nL own) {maxL index n rk : Nat} {yy : MethodName} {bytes : ByteArray} {ret : Option FieldType} {rm : Room} {r : Int} {v' : V_} (as : List AV_) (hM : Met l yy [.code yy bytes maxL ret] rm (Pc_ E sz v as) (Qc_ E sz rk r v') 0 0 (fun q => E.1 < q)) (w1 : Cond.methodLink own index yy ∈ tb_) (ok : cs_ok yy bytes maxL ret n) (hn : as.length = n)
    (hR : rm.frames + 1 ≤ R.frames ∧ 8 + (maxL + 11) + rm.locals ≤ R.locals) (hrc : rm.cells = 0) (hrs : rm.slots = 0) (hz : sz0 ≤ sz) (hf : (sz - sz0).toNat ≤ R.cells ∧ 2000 * (sz - sz0).toNat ≤ R.slots) (hcat : cat_ st ≤ 8) (hd : decode cc pc = .ok (.invokestatic index, 3)) (kk : G_ E p l e R s m args below meth c nL sz0 Q (pc + 3) ls (rs_ rk r st) v' sz) : G_ E p l e R s m args below meth c nL sz0 Q pc ls (as.reverse ++ st) v sz := by
  obtain ⟨w2, w4, w5, hd0⟩ := ok
  have e := z0_ sz
  exact g_callS C as (by rw [e]; exact hM) w1 w2 w4 w5 hd0 hn hR (by rw [hrc, e]) (by rw [hrs, e]) (by rw [e]; exact hf) ⟨hz, Int.le_refl _⟩ hcat hd kk
end GD
