section GIT
variable {E : En_} {p : Program} {l : Launch} {e : Env} {R : Room} {s : State} {m : MethodId} {args : Array Value} {below : List Frame} {meth : Method} {c : Code} {nL : Nat} {sz0 sz : Int} {Q : State → Prop} {cc : ByteArray} {own : String} {pc : Nat} {ls : List (Nat × AV_)} {st : List AV_} {v : V_} {x y h i : Int}
theorem g_callIT (C : MC_ E p s m c cc nL own) {maxL index K : Nat} {yy : MethodName} {bytes : ByteArray} {rm : Room} {r : Int} {v' : V_} {aK aV : Nat} (hA : KA_ s) (hS : KS_ E aK aV s) (hM : Met l yy [.code yy bytes maxL none] rm (PcT_ E sz v aK aV [(2, h)]) (Qc_ E (sz + K) 9 r v') K (2000 * K) (fun q => E.1 < q)) (hr : 0 < h ∧ h < sz)
    (w1 : Cond.methodLink own index yy ∈ tb_) (w2 : Cond.instanceMethod yy ∈ tb_) (w4 : Cond.initialized yy.cls ∈ tb_) (w5 : Cond.code yy bytes maxL none ∈ tb_) (hd0 : yy.cls ≠ "java/lang/invoke/MethodHandle" ∧ yy.cls ≠ "java/lang/invoke/VarHandle" ∧ (parseMethodDescriptor yy.desc).map (fun d => d.parameters.length) = some 0) (hnm : yy.name = "<init>")
    (hR : rm.frames + 1 ≤ R.frames ∧ 8 + (maxL + 11) + rm.locals ≤ R.locals) (hrc : rm.cells = K) (hrs : rm.slots = 2000 * K) (hz : sz0 ≤ sz) (hf : (sz - sz0).toNat + K ≤ R.cells ∧ 2000 * (sz - sz0).toNat + 2000 * K ≤ R.slots) (hcat : cat_ st ≤ 8) (hd : decode cc pc = .ok (.invokespecial index, 3)) (kk : G_ E p l e R s m args below meth c nL sz0 Q (pc + 3) ls st v' (sz + K)) : G_ E p l e R s m args below meth c nL sz0 Q pc ls ((2, h) :: st) v sz := fun H locs lr sr hI hL hl hs => by
  obtain ⟨_, zr, rfl, h1, hs2⟩ := hs
  rcases h1 with ⟨e3, rfl⟩ | ⟨e3, rfl⟩
  · omega
  have hKs := C.2.2.2.2
  have hts := hKs.at args
  have hgw : [Cond.code yy bytes maxL none].all goodWord = true := rfl
  have hT : ∀ w ∈ [Cond.code yy bytes maxL none], w.before args s = true := fun w hw => by
    rw [List.mem_singleton.mp hw]; exact hts _ w5
  have eK : (sz + (K : Int) - sz).toNat = K := by omega
  have cw := cwI (R := R) (s := s) (args := args) (own := own) (index := index) (y := yy) (bytes := bytes) (maxL := maxL) (mc := K) (ms := 2000 * K) (rm := rm) (ws := [.code yy bytes maxL none]) (Ts := [.code yy bytes maxL none]) 0 hT (fun w hw => ⟨hw, good_of_word (List.all_eq_true.mp hgw w hw)⟩) rfl hrc hrs (hts _ w4) (hts _ w1) (hts _ w2) hnm hd0 hR
  have hp : PreS s H (PcT_ E sz v aK aV [(2, h)]) (.ref (E.1 + h.toNat) :: []) := ⟨PcT_blind E sz v aK aV _, fun U hU hW => ⟨⟨⟨⟨_, rfl, ⟨_, _, rfl, Or.inr ⟨e3, rfl⟩, rfl⟩⟩, KK_.moved hW hKs, by rw [hU]; exact hI⟩, KA_.moved hW.alike hA⟩, KS_.moved hW hS⟩⟩
  obtain ⟨lq, hl1, hl2⟩ := id hl
  have hrun := va_runI (l := l) (p := p) (e := e) (R := R) (s := s) (m := m) (args := args) (below := below) (meth := meth) (c := c) (H := H) (locs := locs) (cells := (sz - sz0).toNat) (slots := 2000 * (sz - sz0).toNat) (b := E.1 + h.toNat) (As := []) (Ts := [.code yy bytes maxL none]) (g := F0 m pc lr (Value.ref (E.1 + h.toNat) :: zr)) (rest := zr) ⟨C.1, C.2.1, C.2.2.1, C.2.2.2.1, hT⟩ hM cw hp rfl rfl hl1.1 rfl (by rw [so_cat hs2]; show 2 * 0 + _ ≤ 8; omega) hd hf
  have e2 : (fun q : Nat => E.1 < q) = (fun q : Nat => E.1 < q) := rfl
  refine g_after (sz' := sz + K) (rk := 9) (r := r) (v' := v') (by rw [eK]; exact hrun) ⟨hz, by omega⟩ kk hL hl hs2
theorem g_callITN (C : MC_ E p s m c cc nL own) {host : String} {maxL index K : Nat} {yy : MethodName} {bytes : ByteArray} {rm : Room} {r : Int} {v' : V_} {aK aV : Nat} (hA : KA_ s) (hS : KS_ E aK aV s) (hM : Met l yy [.code yy bytes maxL none] rm (PcT_ E sz v aK aV [(2, h)]) (Qc_ E (sz + K) 9 r v') K (2000 * K) (fun q => E.1 < q)) (hr : 0 < h ∧ h < sz)
    (w1 : Cond.methodLinkNest own index yy host ∈ tb_) (w2 : Cond.instanceMethod yy ∈ tb_) (w4 : Cond.initialized yy.cls ∈ tb_) (w5 : Cond.code yy bytes maxL none ∈ tb_) (hd0 : yy.cls ≠ "java/lang/invoke/MethodHandle" ∧ yy.cls ≠ "java/lang/invoke/VarHandle" ∧ (parseMethodDescriptor yy.desc).map (fun d => d.parameters.length) = some 0) (hnm : yy.name = "<init>")
    (hR : rm.frames + 1 ≤ R.frames ∧ 8 + (maxL + 11) + rm.locals ≤ R.locals) (hrc : rm.cells = K) (hrs : rm.slots = 2000 * K) (hz : sz0 ≤ sz) (hf : (sz - sz0).toNat + K ≤ R.cells ∧ 2000 * (sz - sz0).toNat + 2000 * K ≤ R.slots) (hcat : cat_ st ≤ 8) (hd : decode cc pc = .ok (.invokespecial index, 3)) (kk : G_ E p l e R s m args below meth c nL sz0 Q (pc + 3) ls st v' (sz + K)) : G_ E p l e R s m args below meth c nL sz0 Q pc ls ((2, h) :: st) v sz := fun H locs lr sr hI hL hl hs => by
  obtain ⟨_, zr, rfl, h1, hs2⟩ := hs
  rcases h1 with ⟨e3, rfl⟩ | ⟨e3, rfl⟩
  · omega
  have hKs := C.2.2.2.2
  have hts := hKs.at args
  have hgw : [Cond.code yy bytes maxL none].all goodWord = true := rfl
  have hT : ∀ w ∈ [Cond.code yy bytes maxL none], w.before args s = true := fun w hw => by
    rw [List.mem_singleton.mp hw]; exact hts _ w5
  have eK : (sz + (K : Int) - sz).toNat = K := by omega
  have cw := va_cnB (R := R) (s := s) (args := args) (own := own) (host := host) (index := index) (y := yy) (bytes := bytes) (maxL := maxL) (ret := none) (mc := K) (ms := 2000 * K) (rm := rm) (ws := [.code yy bytes maxL none]) (Ts := [.code yy bytes maxL none]) 0 hT (fun w hw => ⟨hw, good_of_word (List.all_eq_true.mp hgw w hw)⟩) rfl hrc hrs (va_Nw.of rfl (hts _ w1)) (hts _ w4) hd0 hR
  have hp : PreS s H (PcT_ E sz v aK aV [(2, h)]) (.ref (E.1 + h.toNat) :: []) := ⟨PcT_blind E sz v aK aV _, fun U hU hW => ⟨⟨⟨⟨_, rfl, ⟨_, _, rfl, Or.inr ⟨e3, rfl⟩, rfl⟩⟩, KK_.moved hW hKs, by rw [hU]; exact hI⟩, KA_.moved hW.alike hA⟩, KS_.moved hW hS⟩⟩
  obtain ⟨lq, hl1, hl2⟩ := id hl
  have hrun := va_runIN (l := l) (p := p) (e := e) (R := R) (s := s) (m := m) (args := args) (below := below) (meth := meth) (c := c) (H := H) (locs := locs) (cells := (sz - sz0).toNat) (slots := 2000 * (sz - sz0).toNat) (b := E.1 + h.toNat) (As := []) (Ts := [.code yy bytes maxL none]) (g := F0 m pc lr (Value.ref (E.1 + h.toNat) :: zr)) (rest := zr) ⟨C.1, C.2.1, C.2.2.1, C.2.2.2.1, hT⟩ hM ⟨cw, hnm, hts _ w2⟩ hp rfl rfl hl1.1 rfl (by rw [so_cat hs2]; show 2 * 0 + _ ≤ 8; omega) hd hf
  refine g_after (sz' := sz + K) (rk := 9) (r := r) (v' := v') (by rw [eK]; exact hrun) ⟨hz, by omega⟩ kk hL hl hs2
end GIT
