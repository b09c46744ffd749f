/-! calls, returns, the head of a method -/
def Pc_ (E : En_) (sz : Int) (v : V_) (as : List AV_) : Array Value → State → Prop := fun a U => (∃ zs, a = zs.toArray ∧ so_ E.1 as zs) ∧ KK_ E U ∧ In_ E v sz U.heap
theorem Pc_blind (E : En_) (sz : Int) (v : V_) (as : List AV_) : FrameBlind (Pc_ E sz v as) := fun a U g mk h => ⟨h.1, KK_.moved (s := U) (U := U.calling g mk a) (State.WarmedH.refl U) h.2.1, h.2.2⟩
def ck_ {α : Type} (P : Prop) [Decidable P] (x : Option α) : Option α := if P then x else none
def bd_ {α β : Type} (x : Option α) (f : α → Option β) : Option β := match x with
  | none => none
  | some a => f a
def lt_ {α β : Type} (x : α) (f : α → β) : β := f x
theorem ck_e {α : Type} {P : Prop} [Decidable P] {x : Option α} {r : α} (h : ck_ P x = some r) : P ∧ x = some r := by
  unfold ck_ at h
  split at h
  · exact ⟨by assumption, h⟩
  · cases h
theorem bd_e {α β : Type} {x : Option α} {f : α → Option β} {r : β} (h : bd_ x f = some r) : ∃ a, x = some a ∧ f a = some r := by
  cases x with
  | none => cases h
  | some a => exact ⟨a, rfl, h⟩
theorem lt_e {α β : Type} {x : α} {f : α → Option β} {r : β} (h : lt_ x f = some r) : ∃ a, a = x ∧ f a = some r := ⟨x, rfl, h⟩
theorem if_t {α : Type} {P : Prop} [Decidable P] {x y : Option α} {r : α} (h : (if P then x else y) = some r) (c : P) : x = some r := by rw [if_pos c] at h; exact h
theorem if_f {α : Type} {P : Prop} [Decidable P] {x y : Option α} {r : α} (h : (if P then x else y) = some r) (c : ¬ P) : y = some r := by rw [if_neg c] at h; exact h
def la_ : Nat → List AV_ → List (Nat × AV_)
  | _, [] => []
  | i, a :: as => (i, a) :: la_ (if a.1 = 1 then i + 2 else i + 1) as
theorem ml_args {B : Nat} : ∀ {as : List AV_} {zs : List Value} (i : Nat), so_ B as zs → ml_ B (la_ i as) (lv_args i zs)
  | [], zs, i, h => by
    have h : zs = [] := h
    subst h; rfl
  | a :: as, _, i, ⟨z, zr, h1, h2, h3⟩ => by
    subst h1
    refine ⟨z, _, rfl, h2, ?_⟩
    have e : (if z.category = 2 then i + 2 else i + 1) = (if a.1 = 1 then i + 2 else i + 1) := by
      rw [vo_cat h2]
      by_cases q : a.1 = 1 <;> simp [q]
    rw [e]
    exact ml_args _ h3
def ls_ (as : List AV_) : Nat := (as.map (fun a => if a.1 = 1 then 2 else 1)).sum
theorem sl_len {B : Nat} : ∀ {as : List AV_} {zs : List Value}, so_ B as zs → (lg_sl zs).length = ls_ as
  | [], zs, h => by
    have h : zs = [] := h
    subst h; rfl
  | a :: as, _, ⟨z, zr, h1, h2, h3⟩ => by
    subst h1
    have ih := sl_len h3
    have e := vo_cat h2
    unfold lg_sl at ih ⊢
    rw [List.flatMap_cons, List.length_append, ih]
    unfold ls_
    rw [List.map_cons, List.sum_cons]
    by_cases q : a.1 = 1
    · rw [if_pos q] at e ⊢
      rw [if_pos e]; rfl
    · rw [if_neg q] at e ⊢
      rw [if_neg (by rw [e]; decide)]; rfl
/-- a method's contract out of its G_ -/
theorem met_G {l : Launch} {y : MethodName} {cc : ByteArray} {maxL : Nat} {ret : Option FieldType} {rm : Room} {E : En_} {sz0 sz' : Int} {v v' : V_} {as : List AV_} {rk : Nat} {r : Int} {own : String} (hy : plainName y.cls = true) (ho : y.cls = own) (hls : ls_ as ≤ maxL)
    (body : ∀ p e s m args below meth c, MC_ E p s m c cc maxL own → meth.sig.returnType = ret → meth.locks = false → meth.name = y.name → G_ E p l e rm s m args below meth c maxL sz0 (Q_ E below args s sz0 sz' rk r v') 0 (la_ 0 as) [] v sz0) : Met l y [.code y cc maxL ret] rm (Pc_ E sz0 v as) (Qc_ E sz' rk r v') (sz' - sz0).toNat (2000 * (sz' - sz0).toNat) (fun q => E.1 < q) := by
  refine Met.ofW (cc := cc) (maxL := maxL) (ret := ret) hy rfl ?_
  intro p e s m args below meth c s₁ B hml hv
  obtain ⟨⟨zs, rfl, hso⟩, hK, hI⟩ := hv
  have hown : s.vm.findClass own = some m.cls := ho ▸ findClass_of_methodNamed B.named
  have hin : meth.name = y.name := (name_of_methodNamed B.named B.method).1
  have h1 := body p e s m zs.toArray below meth c ⟨B.exec, B.bytes, hml, hown, hK⟩ B.returns B.notSynchronized hin s.heap [] _ [] hI (fun q hq => by cases hq) ⟨lv_args 0 zs, lv_entry zs (n := maxL) (by rw [sl_len hso]; exact hls), ml_args 0 hso⟩ rfl
  rw [lg_entry_eq]
  have e : (sz0 - sz0).toNat = 0 := by omega
  rw [e] at h1
  exact h1
section GC
variable {E : En_} {p : Program} {l : Launch} {e : Env} {R : Room} {s : State} {m : MethodId} {args : Array Value} {below : List Frame} {meth : Method} {c : Code} {nL : Nat} {sz0 sz : Int} {Q : State → Prop} {cc : ByteArray} {own : String} {pc : Nat} {ls : List (Nat × AV_)} {st : List AV_} {v : V_} {x y h i : Int}
theorem w_run {H : Heap} {locs : List Loc} {cells slots mc ms : Nat} {g : JFrame} {rest : List Value} {Qa : State → Outcome → State → Prop} {free : Addr → Prop} (hr : va_Run p l e R s m args below meth c H locs cells slots mc ms g rest Qa free)
    (kk : ∀ (rv : Option Value) (st0 t : State) (H1 : Heap) (L : List Loc), t.heap = H1 → Qa st0 (.returned rv) t → (∀ q ∈ L, free q.base) → W p l e R s m args below meth c H1 (locs ++ L) (cells + mc) (slots + ms) Q { g with pc := g.pc + 3, stack := rv.toList ++ rest }) : W p l e R s m args below meth c H locs cells slots Q g := by
  intro T hT X
  obtain ⟨rv, st₀, t, T', L, h0, X', hL, e1, e2, hq, st⟩ := hr T hT X
  obtain ⟨t2, a1, b1⟩ := kk rv st₀ t T'.heap L e1.symm hq hL T' rfl X'
  exact ⟨t2, st t2 a1, b1⟩
def rs_ (rk : Nat) (r : Int) (st : List AV_) : List AV_ := match rk with
  | 9 => st
  | k => (k, r) :: st
theorem g_after {sz' : Int} {rk : Nat} {r : Int} {v' : V_} {a : Array Value} {H : Heap} {locs : List Loc} {lr : Array Slot} {sr zr : List Value} (hr : va_Run p l e R s m args below meth c H locs (sz - sz0).toNat (2000 * (sz - sz0).toNat) (sz' - sz).toNat (2000 * (sz' - sz).toNat) (F0 m pc lr sr) zr (Qc_ E sz' rk r v' a) (fun q => E.1 < q)) (hz : sz0 ≤ sz ∧ sz ≤ sz') (kk : G_ E p l e R s m args below meth c nL sz0 Q (pc + 3) ls (rs_ rk r st) v' sz') (hL : ∀ q ∈ locs, E.1 < q.base) (hl : lo_ E.1 nL ls lr) (hs : so_ E.1 st zr) : W p l e R s m args below meth c H locs (sz - sz0).toNat (2000 * (sz - sz0).toNat) Q (F0 m pc lr sr) := by
  refine w_run hr fun rv st0 t H1 L ht hq hL2 => ?_
  obtain ⟨⟨rv2, e1, e2⟩, hI⟩ := hq
  cases e1
  rw [ht] at hI
  have e3 : (sz - sz0).toNat + (sz' - sz).toNat = (sz' - sz0).toNat := by omega
  have e4 : 2000 * (sz - sz0).toNat + 2000 * (sz' - sz).toNat = 2000 * (sz' - sz0).toNat := by omega
  rw [e3, e4]
  refine kk H1 _ lr _ hI (fun q hq => ?_) hl ?_
  · rcases List.mem_append.mp hq with h5 | h5
    · exact hL q h5
    · exact hL2 q h5
  · unfold ro_ at e2
    unfold rs_
    split at e2
    · subst e2
      exact hs
    · rename_i hne
      obtain ⟨z, e5, e6⟩ := e2
      subst e5
      split
      · exact absurd rfl (hne)
      · exact ⟨z, _, rfl, e6, hs⟩
def co_ (y : MethodName) (bytes : ByteArray) (maxL : Nat) (ret : Option FieldType) : List Cond := [.code y bytes maxL ret]
theorem g_callV (C : MC_ E p s m c cc nL own) {ci N maxL index n rk : Nat} {Cn : String} {T : u_T} {ty : Nat → FieldType} {yy : MethodName} {bytes : ByteArray} {ret : Option FieldType} {rm : Room} {sz' r : Int} {v' : V_} (as : List AV_) (hM : Met l yy [.code yy bytes maxL ret] rm (Pc_ E sz v ((2, h) :: as)) (Qc_ E sz' rk r v') (sz' - sz).toNat (2000 * (sz' - sz).toNat) (fun q => E.1 < q)) (hc : cl_ok ci Cn T N ty) (ht : ty_ h = ci) (hr : 0 < h ∧ h < sz)
    (w1 : Cond.methodLink own index yy ∈ tb_) (w2 : Cond.instanceMethod yy ∈ tb_) (w3 : Cond.selects Cn yy yy ∈ tb_) (w4 : Cond.initialized Cn ∈ tb_) (w5 : Cond.code yy bytes maxL ret ∈ tb_) (hd0 : yy.cls = Cn ∧ yy.cls ≠ "java/lang/invoke/MethodHandle" ∧ yy.cls ≠ "java/lang/invoke/VarHandle" ∧ (parseMethodDescriptor yy.desc).map (fun d => d.parameters.length) = some n) (hn : as.length = n)
    (hR : rm.frames + 1 ≤ R.frames ∧ 8 + (maxL + 11) + rm.locals ≤ R.locals) (hrc : rm.cells = (sz' - sz).toNat) (hrs : rm.slots = 2000 * (sz' - sz).toNat) (hf : (sz - sz0).toNat + (sz' - sz).toNat ≤ R.cells ∧ 2000 * (sz - sz0).toNat + 2000 * (sz' - sz).toNat ≤ R.slots) (hz : sz0 ≤ sz ∧ sz ≤ sz') (hcat : cat_ st ≤ 8) (hd : decode cc pc = .ok (.invokevirtual index, 3)) (kk : G_ E p l e R s m args below meth c nL sz0 Q (pc + 3) ls (rs_ rk r st) v' sz') : G_ E p l e R s m args below meth c nL sz0 Q pc ls (as.reverse ++ (2, h) :: st) v sz := fun H locs lr sr hI hL hl hs => by
  obtain ⟨zA, zB, rfl, hA, hB⟩ := so_app hs
  obtain ⟨_, zr, rfl, h1, hs2⟩ := hB
  rcases h1 with ⟨e3, rfl⟩ | ⟨e3, rfl⟩
  · omega
  obtain ⟨w, ⟨cell, q1, q2, q3, q4⟩, hw2⟩ := ce_obj hI hc hr ht
  have hKs := C.2.2.2.2
  have hts := hKs.at args
  obtain ⟨hS, hfc⟩ := hKs.2.1 ci _ hc.1
  have hT : ∀ w ∈ wsV own index Cn yy [.code yy bytes maxL ret], w ∈ tb_ := by
    intro w hw
    simp only [wsV, List.cons_append, List.nil_append, List.mem_cons, List.not_mem_nil, or_false] at hw
    rcases hw with rfl | rfl | rfl | rfl | rfl
    · exact w1
    · exact w2
    · exact w3
    · exact w4
    · exact w5
  have hgw : (wsV own index Cn yy [.code yy bytes maxL ret]).all goodWord = true := rfl
  have cw : CallW R s args own Cn index yy bytes maxL ret [.code yy bytes maxL ret] rm (sz' - sz).toNat (2000 * (sz' - sz).toNat) n := cwV (Ts := wsV own index Cn yy [.code yy bytes maxL ret]) n (fun w hw => hts w (hT w hw)) (fun w hw => ⟨hw, good_of_word (List.all_eq_true.mp hgw w hw)⟩) rfl hrc hrs hd0 hR
  have hlen := so_len hA
  rw [List.length_reverse] at hlen
  have hrev := so_rev hA
  rw [List.reverse_reverse] at hrev
  have hso : so_ E.1 ((2, h) :: as) (Value.ref (E.1 + h.toNat) :: zA.reverse) := ⟨_, _, rfl, Or.inr ⟨e3, rfl⟩, hrev⟩
  have hp : PreV s H Cn (E.1 + h.toNat) (Pc_ E sz v ((2, h) :: as)) zA.reverse := ⟨Pc_blind E sz v _, ⟨cell, q1, by rw [q3]; rfl, by rw [q2]; exact hfc.1⟩, fun U hU hW => ⟨⟨_, rfl, hso⟩, KK_.moved hW hKs, by rw [hU]; exact hI⟩⟩
  obtain ⟨lq, hl1, hl2⟩ := id hl
  exact g_after (va_runV (Ts := wsV own index Cn yy [.code yy bytes maxL ret]) (g := F0 m pc lr (zA ++ Value.ref (E.1 + h.toNat) :: zr)) (rest := zr) ⟨C.1, C.2.1, C.2.2.1, C.2.2.2.1, fun w hw => hts w (hT w hw)⟩ hM cw hp rfl (by rw [List.length_reverse, hlen, hn]) hl1.1 (by rw [List.reverse_reverse]) (by rw [so_cat hs2]; show 2 * 0 + _ ≤ 8; omega) hd hf) hz kk hL hl hs2
theorem g_callS (C : MC_ E p s m c cc nL own) {maxL index n rk : Nat} {yy : MethodName} {bytes : ByteArray} {ret : Option FieldType} {rm : Room} {sz' r : Int} {v' : V_} (as : List AV_) (hM : Met l yy [.code yy bytes maxL ret] rm (Pc_ E sz v as) (Qc_ E sz' rk r v') (sz' - sz).toNat (2000 * (sz' - sz).toNat) (fun q => E.1 < q))
    (w1 : Cond.methodLink own index yy ∈ tb_) (w2 : Cond.static yy ∈ tb_) (w4 : Cond.initialized yy.cls ∈ tb_) (w5 : Cond.code yy bytes maxL ret ∈ tb_) (hd0 : yy.cls ≠ "java/lang/invoke/MethodHandle" ∧ yy.cls ≠ "java/lang/invoke/VarHandle" ∧ (parseMethodDescriptor yy.desc).map (fun d => d.parameters.length) = some n) (hn : as.length = n)
    (hR : rm.frames + 1 ≤ R.frames ∧ 8 + (maxL + 11) + rm.locals ≤ R.locals) (hrc : rm.cells = (sz' - sz).toNat) (hrs : rm.slots = 2000 * (sz' - sz).toNat) (hf : (sz - sz0).toNat + (sz' - sz).toNat ≤ R.cells ∧ 2000 * (sz - sz0).toNat + 2000 * (sz' - sz).toNat ≤ R.slots) (hz : sz0 ≤ sz ∧ sz ≤ sz') (hcat : cat_ st ≤ 8) (hd : decode cc pc = .ok (.invokestatic index, 3)) (kk : G_ E p l e R s m args below meth c nL sz0 Q (pc + 3) ls (rs_ rk r st) v' sz') : G_ E p l e R s m args below meth c nL sz0 Q pc ls (as.reverse ++ st) v sz := fun H locs lr sr hI hL hl hs => by
  obtain ⟨zA, zr, rfl, hA, hs⟩ := so_app hs
  have hKs := C.2.2.2.2
  have hts := hKs.at args
  have hT : ∀ w ∈ va_wsS own index yy [.code yy bytes maxL ret], w ∈ tb_ := by
    intro w hw
    simp only [va_wsS, List.cons_append, List.nil_append, List.mem_cons, List.not_mem_nil, or_false] at hw
    rcases hw with rfl | rfl | rfl | rfl
    · exact w1
    · exact w2
    · exact w4
    · exact w5
  have hgw : (va_wsS own index yy [.code yy bytes maxL ret]).all goodWord = true := rfl
  have cw := va_cwS (R := R) (s := s) (args := args) (own := own) (Ts := va_wsS own index yy [.code yy bytes maxL ret]) (ws := [.code yy bytes maxL ret]) n (fun w hw => hts w (hT w hw)) (fun w hw => ⟨hw, good_of_word (List.all_eq_true.mp hgw w hw)⟩) rfl hrc hrs hd0 hR
  have hlen := so_len hA
  rw [List.length_reverse] at hlen
  have hrev := so_rev hA
  rw [List.reverse_reverse] at hrev
  have hp : PreS s H (Pc_ E sz v as) zA.reverse := ⟨Pc_blind E sz v _, fun U hU hW => ⟨⟨_, rfl, hrev⟩, KK_.moved hW hKs, by rw [hU]; exact hI⟩⟩
  obtain ⟨lq, hl1, hl2⟩ := id hl
  exact g_after (va_runS (Ts := va_wsS own index yy [.code yy bytes maxL ret]) (g := F0 m pc lr (zA ++ zr)) (rest := zr) ⟨C.1, C.2.1, C.2.2.1, C.2.2.2.1, fun w hw => hts w (hT w hw)⟩ hM cw hp rfl (by rw [List.length_reverse, hlen, hn]) hl1.1 (by rw [List.reverse_reverse]) (by rw [so_cat hs]; show 2 * 0 + _ ≤ 8; omega) hd hf) hz kk hL hl hs
theorem g_callSN (C : MC_ E p s m c cc nL own) {host : String} {maxL index n rk : Nat} {yy : MethodName} {bytes : ByteArray} {ret : Option FieldType} {rm : Room} {sz' r : Int} {v' : V_} (as : List AV_) (hM : Met l yy [.code yy bytes maxL ret] rm (Pc_ E sz v as) (Qc_ E sz' rk r v') (sz' - sz).toNat (2000 * (sz' - sz).toNat) (fun q => E.1 < q))
    (w1 : Cond.methodLinkNest own index yy host ∈ tb_) (w2 : Cond.static yy ∈ tb_) (w4 : Cond.initialized yy.cls ∈ tb_) (w5 : Cond.code yy bytes maxL ret ∈ tb_) (hd0 : yy.cls ≠ "java/lang/invoke/MethodHandle" ∧ yy.cls ≠ "java/lang/invoke/VarHandle" ∧ (parseMethodDescriptor yy.desc).map (fun d => d.parameters.length) = some n) (hn : as.length = n)
    (hR : rm.frames + 1 ≤ R.frames ∧ 8 + (maxL + 11) + rm.locals ≤ R.locals) (hrc : rm.cells = (sz' - sz).toNat) (hrs : rm.slots = 2000 * (sz' - sz).toNat) (hf : (sz - sz0).toNat + (sz' - sz).toNat ≤ R.cells ∧ 2000 * (sz - sz0).toNat + 2000 * (sz' - sz).toNat ≤ R.slots) (hz : sz0 ≤ sz ∧ sz ≤ sz') (hcat : cat_ st ≤ 8) (hd : decode cc pc = .ok (.invokestatic index, 3)) (kk : G_ E p l e R s m args below meth c nL sz0 Q (pc + 3) ls (rs_ rk r st) v' sz') : G_ E p l e R s m args below meth c nL sz0 Q pc ls (as.reverse ++ st) v sz := fun H locs lr sr hI hL hl hs => by
  obtain ⟨zA, zr, rfl, hA, hs⟩ := so_app hs
  have hKs := C.2.2.2.2
  have hts := hKs.at args
  have hgw : [Cond.code yy bytes maxL ret].all goodWord = true := rfl
  have hT : ∀ w ∈ [Cond.code yy bytes maxL ret], w.before args s = true := fun w hw => by
    rw [List.mem_singleton.mp hw]; exact hts _ w5
  have cw := va_cnB (R := R) (s := s) (args := args) (own := own) (host := host) (Ts := [.code yy bytes maxL ret]) (ws := [.code yy bytes maxL ret]) n hT (fun w hw => ⟨hw, good_of_word (List.all_eq_true.mp hgw w hw)⟩) rfl hrc hrs (va_Nw.of rfl (hts _ w1)) (hts _ w4) hd0 hR
  have hlen := so_len hA
  rw [List.length_reverse] at hlen
  have hrev := so_rev hA
  rw [List.reverse_reverse] at hrev
  have hp : PreS s H (Pc_ E sz v as) zA.reverse := ⟨Pc_blind E sz v _, fun U hU hW => ⟨⟨_, rfl, hrev⟩, KK_.moved hW hKs, by rw [hU]; exact hI⟩⟩
  obtain ⟨lq, hl1, hl2⟩ := id hl
  exact g_after (va_runSN (Ts := [.code yy bytes maxL ret]) (g := F0 m pc lr (zA ++ zr)) (rest := zr) ⟨C.1, C.2.1, C.2.2.1, C.2.2.2.1, hT⟩ hM ⟨cw, hts _ w2, trivial⟩ hp rfl (by rw [List.length_reverse, hlen, hn]) hl1.1 (by rw [List.reverse_reverse]) (by rw [so_cat hs]; show 2 * 0 + _ ≤ 8; omega) hd hf) hz kk hL hl hs
theorem g_iret (C : MC_ E p s m c cc nL own) (hd : decode cc pc = .ok (.ireturn, 1)) (hr : meth.sig.returnType = some .int) (hlk : meth.locks = false) : G_ E p l e R s m args below meth c nL sz0 (Q_ E below args s sz0 sz 0 x v) pc ls [(0, x)] v sz := fun H locs lr sr hI hL hl hs => by
  obtain ⟨_, zr, rfl, ⟨X, rfl, ex⟩, hs⟩ := hs
  have hs : zr = [] := hs
  subst hs
  exact W.iret C.1 C.2.1 hr (fun t ht hW => ⟨⟨_, rfl, _, rfl, X, rfl, ex⟩, by rw [ht]; exact hI⟩) hL hd hlk
theorem g_zret (C : MC_ E p s m c cc nL own) (hd : decode cc pc = .ok (.ireturn, 1)) (hr : meth.sig.returnType = some .boolean) (hlk : meth.locks = false) (hx : x = 0 ∨ x = 1) : G_ E p l e R s m args below meth c nL sz0 (Q_ E below args s sz0 sz 0 x v) pc ls [(0, x)] v sz := fun H locs lr sr hI hL hl hs => by
  obtain ⟨_, zr, rfl, ⟨X, rfl, ex⟩, hs⟩ := hs
  have hs : zr = [] := hs
  subst hs
  exact W.zret C.1 C.2.1 hr (narrow_z (by rw [ex]; exact hx)).1 (fun t ht hW => ⟨⟨_, rfl, _, rfl, X, rfl, ex⟩, by rw [ht]; exact hI⟩) hL hd hlk
theorem g_lret (C : MC_ E p s m c cc nL own) (hd : decode cc pc = .ok (.lreturn, 1)) (hr : meth.sig.returnType = some .long) (hlk : meth.locks = false) : G_ E p l e R s m args below meth c nL sz0 (Q_ E below args s sz0 sz 1 x v) pc ls [(1, x)] v sz := fun H locs lr sr hI hL hl hs => by
  obtain ⟨_, zr, rfl, ⟨X, rfl, ex⟩, hs⟩ := hs
  have hs : zr = [] := hs
  subst hs
  exact W.lret C.1 C.2.1 hr (fun t ht hW => ⟨⟨_, rfl, _, rfl, X, rfl, ex⟩, by rw [ht]; exact hI⟩) hL hd hlk
theorem g_aret (C : MC_ E p s m c cc nL own) {rt : FieldType} (hd : decode cc pc = .ok (.areturn, 1)) (hr : meth.sig.returnType = some rt) (hrt : (∃ n, rt = .object n) ∨ ∃ t, rt = .array t) (hlk : meth.locks = false) : G_ E p l e R s m args below meth c nL sz0 (Q_ E below args s sz0 sz 2 x v) pc ls [(2, x)] v sz := fun H locs lr sr hI hL hl hs => by
  obtain ⟨z, zr, rfl, h1, hs⟩ := hs
  have hs : zr = [] := hs
  subst hs
  have hz : z = .null ∨ ∃ a, z = .ref a := by
    rcases h1 with ⟨_, h⟩ | ⟨_, h⟩
    · exact Or.inl h
    · exact Or.inr ⟨_, h⟩
  exact W.aret C.1 C.2.1 hr hrt hz (fun t ht hW => ⟨⟨_, rfl, _, rfl, h1⟩, by rw [ht]; exact hI⟩) hL hd hlk
theorem g_vret (C : MC_ E p s m c cc nL own) (hd : decode cc pc = .ok (.return_, 1)) (hr : meth.sig.returnType = none) (hlk : meth.locks = false) : G_ E p l e R s m args below meth c nL sz0 (Q_ E below args s sz0 sz 9 x v) pc ls [] v sz := fun H locs lr sr hI hL hl hs => by
  have hs : sr = [] := hs
  subst hs
  exact W.vret C.1 C.2.1 hr (fun t ht hW => ⟨⟨_, rfl, rfl⟩, by rw [ht]; exact hI⟩) hL hd hlk
end GC
