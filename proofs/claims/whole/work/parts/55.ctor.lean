/-! rows of constructors: what is made, final fields, references stored -/
def zr_ (v : V_) (a : Int) : V_ := fun b j => if b = a then 0 else v b j
theorem zr_same (v : V_) (a j : Int) : zr_ v a a j = 0 := if_pos rfl
theorem zr_ne (v : V_) {a b : Int} (j : Int) (h : b ≠ a) : zr_ v a b j = v b j := if_neg h
def gt_ (t : FieldType) : Bool := match t with
  | .int => true
  | .byte => true
  | .boolean => true
  | .long => true
  | .object _ => true
  | .array _ => true
  | _ => false
theorem dv_ok {B : Nat} {t : FieldType} (h : gt_ t = true) : vo_ B (kd_ t) 0 (defaultValue t) := by
  cases t <;> first | (exact ⟨0, rfl, rfl⟩) | (exact Or.inl ⟨rfl, rfl⟩) | (exact absurd h (by decide))
theorem In_push {E : En_} {v : V_} {sz : Int} {H H1 : Heap} (hI : In_ E v sz H) (hE : ∀ a, ¬ E.2.2.2.2.2 a) (z : H1.size = H.size + 1) (oq : ∀ q : Nat, q < H.size → H1[q]? = H[q]?) (hce : ce_ E (zr_ v sz) H1 sz) : In_ E (zr_ v sz) (sz + 1) H1 := by
  obtain ⟨i1, i2, i3, i4, i5⟩ := hI
  refine ⟨by omega, by omega, fun q hq => by rw [oq q (by omega)]; exact i3 q hq, fun a ha1 ha2 => ?_, fun a ha => absurd ha (hE a)⟩
  by_cases e : a = sz
  · subst e; exact hce
  · exact ce_kept (i4 a ha1 (by omega)) (oq _ (by omega)) (fun j => zr_ne v j e)
section GN
variable {E : En_} {p : Program} {l : Launch} {e : Env} {R : Room} {s : State} {m : MethodId} {args : Array Value} {below : List Frame} {meth : Method} {c : Code} {nL : Nat} {sz0 sz : Int} {Q : State → Prop} {cc : ByteArray} {own : String} {pc : Nat} {ls : List (Nat × AV_)} {st : List AV_} {v : V_} {x y h i : Int}
theorem w_more {H : Heap} {locs : List Loc} {n : Nat} {g : JFrame} (hz : sz0 ≤ sz) (hn : n ≤ 2000) (k : W p l e R s m args below meth c H locs (sz + 1 - sz0).toNat (2000 * (sz + 1 - sz0).toNat) Q g) : W p l e R s m args below meth c H locs ((sz - sz0).toNat + 1) (2000 * (sz - sz0).toNat + n) Q g := by
  refine W.widen (k := (sz + 1 - sz0).toNat) (n := 2000 * (sz + 1 - sz0).toNat) (by omega) (by omega) k
theorem g_new (C : MC_ E p s m c cc nL own) {ci N index : Nat} {Cn : String} {T : u_T} {ty : Nat → FieldType} (hc : cl_ok ci Cn T N ty) (kcl : Cond.classLink own index Cn ∈ tb_) (kin : Cond.instantiable Cn N ∈ tb_) (kini : Cond.initialized Cn ∈ tb_) (hE : ∀ a, ¬ E.2.2.2.2.2 a) (hty : ty_ sz = ci) (hdv : ∀ k, k < N → gt_ (ty k) = true) (hz : sz0 ≤ sz) (hf : (sz + 1 - sz0).toNat ≤ R.cells ∧ 2000 * (sz + 1 - sz0).toNat ≤ R.slots) (hN : N ≤ 2000) (hd : decode cc pc = .ok (.new index, 3)) (kk : G_ E p l e R s m args below meth c nL sz0 Q (pc + 3) ls ((2, sz) :: st) (zr_ v sz) (sz + 1)) : G_ E p l e R s m args below meth c nL sz0 Q pc ls st v sz := fun H locs lr sr hI hL hl hs => by
  have hc0 := hc
  obtain ⟨o1, o2, o3, o4, o5, o6, o7, o8⟩ := hc
  have hKs := C.2.2.2.2
  have hts := hKs.at args
  have hKn := hKs.2.1 ci _ o1
  have h1 := hI.1
  have h2 := hI.2.1
  refine W.newcK C.1 C.2.1 C.2.2.2.1 (hts _ kcl) (hts _ kin) (hts _ kini) rfl hd (by omega) (by omega) hKn.2.1 rfl fun H1 kC hkC e1 z1 q1 => ?_
  have hob := u_born ty hts o2 hKn hkC e1 o3
  rw [h1] at hob
  refine w_more hz hN (kk H1 locs lr _ (In_push hI hE z1 q1 (ce_obj_of hc0 hty hob fun k hk => ?_)) hL hl ⟨_, _, rfl, Or.inr ⟨by omega, by rw [h1]⟩, hs⟩)
  rw [zr_same]
  exact dv_ok (hdv k hk)
theorem g_newa (C : MC_ E p s m c cc nL own) {atype : ArrayType} (t n : Nat) (kar : Cond.arrayClass (newarray.typeOf atype) ∈ tb_) (hE : ∀ a, ¬ E.2.2.2.2.2 a) (htt : t = 20 ∧ newarray.typeOf atype = .int ∨ t = 21 ∧ newarray.typeOf atype = .byte ∨ t = 22 ∧ newarray.typeOf atype = .long ∨ t = 23 ∧ newarray.typeOf atype = .boolean) (hty : ty_ sz = t) (hln : ln_ sz = n) (hx : x = (n : Int)) (hz : sz0 ≤ sz) (hf : (sz + 1 - sz0).toNat ≤ R.cells ∧ 2000 * (sz + 1 - sz0).toNat ≤ R.slots) (hN : n ≤ 2000) (hd : decode cc pc = .ok (.newarray atype, 2)) (kk : G_ E p l e R s m args below meth c nL sz0 Q (pc + 2) ls ((2, sz) :: st) (zr_ v sz) (sz + 1)) : G_ E p l e R s m args below meth c nL sz0 Q pc ls ((0, x) :: st) v sz := fun H locs lr sr hI hL hl hs => by
  subst hx
  obtain ⟨_, zr, rfl, ⟨X, rfl, eX⟩, hs⟩ := hs
  have hKs := C.2.2.2.2
  have hts := hKs.at args
  have h1 := hI.1
  have h2 := hI.2.1
  have e0 : X.toNatClampNeg = n := by
    show X.toInt.toNat = n
    rw [eX]; rfl
  have hb : n * componentBytes (newarray.typeOf atype) ≤ 536870912 := by
    rcases htt with ⟨_, h⟩ | ⟨_, h⟩ | ⟨_, h⟩ | ⟨_, h⟩ <;> (rw [h]; simp only [componentBytes]; omega)
  refine va_newaK C.1 C.2.1 (hts _ kar) rfl hd rfl (nnI (by omega)) e0 hb (by omega) (by omega) rfl fun H1 cA e1 z1 q1 hAr hNm => ?_
  rw [h1] at e1
  have hcA : cA = E.2.2.2.2.1 (t - 20) ∧ newarray.typeOf atype = at_ (t - 20) := by
    rcases htt with ⟨rfl, h⟩ | ⟨rfl, h⟩ | ⟨rfl, h⟩ | ⟨rfl, h⟩
    · rw [h] at hNm
      exact ⟨Option.some.inj (hNm.symm.trans (hKs.2.2 0 _ rfl).2), h⟩
    · rw [h] at hNm
      exact ⟨Option.some.inj (hNm.symm.trans (hKs.2.2 1 _ rfl).2), h⟩
    · rw [h] at hNm
      exact ⟨Option.some.inj (hNm.symm.trans (hKs.2.2 2 _ rfl).2), h⟩
    · rw [h] at hNm
      exact ⟨Option.some.inj (hNm.symm.trans (hKs.2.2 3 _ rfl).2), h⟩
  rw [hcA.1, hcA.2] at e1
  have h20 : ¬ t < 20 := by rcases htt with ⟨h, _⟩ | ⟨h, _⟩ | ⟨h, _⟩ | ⟨h, _⟩ <;> omega
  have hgt : gt_ (at_ (t - 20)) = true := by rcases htt with ⟨rfl, _⟩ | ⟨rfl, _⟩ | ⟨rfl, _⟩ | ⟨rfl, _⟩ <;> rfl
  refine w_more hz hN (kk H1 locs lr _ (In_push hI hE z1 q1 (ce_arr_of hty hln h20 e1 fun k hk => ?_)) hL hl ⟨_, _, rfl, Or.inr ⟨by omega, by rw [h1]⟩, hs⟩)
  rw [zr_same]
  exact dv_ok hgt
theorem g_anew (C : MC_ E p s m c cc nL own) {index : Nat} {Cn : String} (t n : Nat) (kcl : Cond.classLink own index Cn ∈ tb_) (kov : va_AO Cn s) (hE : ∀ a, ¬ E.2.2.2.2.2 a) (htt : t = 25 ∧ Cn = "TraceDesk$Step" ∨ t = 26 ∧ Cn = "TraceDesk$Item" ∨ t = 27 ∧ Cn = "TraceDesk$Trace") (hty : ty_ sz = t) (hln : ln_ sz = n) (hx : x = (n : Int)) (hz : sz0 ≤ sz) (hf : (sz + 1 - sz0).toNat ≤ R.cells ∧ 2000 * (sz + 1 - sz0).toNat ≤ R.slots) (hN : n ≤ 2000) (hd : decode cc pc = .ok (.anewarray index, 3)) (kk : G_ E p l e R s m args below meth c nL sz0 Q (pc + 3) ls ((2, sz) :: st) (zr_ v sz) (sz + 1)) : G_ E p l e R s m args below meth c nL sz0 Q pc ls ((0, x) :: st) v sz := fun H locs lr sr hI hL hl hs => by
  subst hx
  obtain ⟨_, zr, rfl, ⟨X, rfl, eX⟩, hs⟩ := hs
  have hKs := C.2.2.2.2
  have hts := hKs.at args
  have h1 := hI.1
  have h2 := hI.2.1
  have e0 : X.toNatClampNeg = n := by
    show X.toInt.toNat = n
    rw [eX]; rfl
  refine W.anew C.1 C.2.1 C.2.2.2.1 (hts _ kcl) (va_AO.use kov) rfl hd rfl (nnI (by omega)) (by rw [e0]; omega) (by omega) (by rw [e0]; omega) fun cA kA comp f1 f2 f3 f4 => ?_
  rw [e0]
  generalize hH1 : H.push ({ cls := cA, slots := Array.replicate n .null, vm := .none } : Cell) = H1
  have z1 : H1.size = H.size + 1 := by rw [← hH1, Array.size_push]
  have e1 : H1[H.size]? = some (arrV cA n (fun _ => .null)) := by rw [← hH1, Array.getElem?_push_size, ← arrV_new]
  have q1 : ∀ q : Nat, q < H.size → H1[q]? = H[q]? := fun q hq => by rw [← hH1, Array.getElem?_push, if_neg (Nat.ne_of_lt hq)]
  rw [h1] at e1
  have hcA : cA = E.2.2.2.2.1 (t - 20) := by
    rcases htt with ⟨rfl, rfl⟩ | ⟨rfl, rfl⟩ | ⟨rfl, rfl⟩
    · obtain ⟨-, -, -, -, -, h⟩ := (hKs.2.2 5 _ rfl).2
      exact Option.some.inj (f1.symm.trans h)
    · obtain ⟨-, -, -, -, -, h⟩ := (hKs.2.2 6 _ rfl).2
      exact Option.some.inj (f1.symm.trans h)
    · obtain ⟨-, -, -, -, -, h⟩ := (hKs.2.2 7 _ rfl).2
      exact Option.some.inj (f1.symm.trans h)
  rw [hcA] at e1
  have h20 : ¬ t < 20 := by rcases htt with ⟨h, _⟩ | ⟨h, _⟩ | ⟨h, _⟩ <;> omega
  have hkd : kd_ (at_ (t - 20)) = 2 := by rcases htt with ⟨rfl, _⟩ | ⟨rfl, _⟩ | ⟨rfl, _⟩ <;> rfl
  refine w_more hz hN (kk H1 locs lr _ (In_push hI hE z1 q1 (ce_arr_of hty hln h20 e1 fun k hk => ?_)) hL hl ⟨_, _, rfl, Or.inr ⟨by omega, by rw [h1]⟩, hs⟩)
  rw [zr_same, hkd]
  exact Or.inl ⟨rfl, rfl⟩
/-- putfield of a final field, in its class's constructor -/
theorem g_putF (C : MC_ E p s m c cc nL own) (hin2 : meth.name = "<init>") {ci k index N kd : Nat} {T : u_T} {ty : Nat → FieldType} (hc : cl_ok ci own T N ty) (hk : k < N) (hw : Cond.fieldLink own index own (T k).2.1 (T k).2.2.1 ∈ tb_) (hd : decode cc pc = .ok (.putfield index, 3)) (hr : 0 < h ∧ h < sz) (ht : ty_ h = ci) (hkd : kd_ (ty k) = kd) (hfin : (T k).2.2.2 = true) (hv : ∀ z, vo_ E.1 kd x z → narrow (ty k) z = z ∧ fits (ty k) z = true) (hE : ∀ a, ¬ E.2.2.2.2.2 a) (kk : G_ E p l e R s m args below meth c nL sz0 Q (pc + 3) ls st (up_ v h k x) sz) : G_ E p l e R s m args below meth c nL sz0 Q pc ls ((kd, x) :: (2, h) :: st) v sz := fun H locs lr sr hI hL hl hs => by
  obtain ⟨z, zr, rfl, h0, hs⟩ := hs
  obtain ⟨_, zr2, rfl, h1, hs⟩ := hs
  rcases h1 with ⟨e3, rfl⟩ | ⟨e3, rfl⟩
  · omega
  obtain ⟨w, ⟨cell, q1, q2, q3, q4⟩, hw2⟩ := ce_obj hI hc hr ht
  have hc0 := hc
  obtain ⟨o1, o2, o3, o4, o5, o6, o7, o8⟩ := hc
  have hKs := C.2.2.2.2
  have hts := hKs.at args
  have hap := va_apart (own := own) hts o2 ty o3 o4 hKs.2 o1
  obtain ⟨hS, hfc, kC, hkC, hkind⟩ := hKs.2.1 ci _ o1
  obtain ⟨cf, kf, fi, f, hi0, hsl⟩ := hS k hk
  have hi := hi0
  rw [show ((own, T, N) : vw_C).2.1 = T from rfl, o7 k hk] at hi
  have hlay := hts _ (o2 _ (u_in_lay hk))
  unfold u_lay at hlay
  rw [if_pos hfin] at hlay
  have hst := (u_facts hfc hkC (u_lays hts o2 hk) hi0).1
  obtain ⟨hn, hfit⟩ := hv z h0
  have hcf : m.cls = cf := by
    obtain ⟨_, _, c', _, _, _, -, -, hf', -, -, -, hown2, -⟩ := Cond.laysFinal_spec hlay
    have e1 : c' = cf := by have := hi0.symm.trans hf'; simp at this; exact this.1.symm
    rw [o7 k hk] at hown2
    rw [← e1]; exact Option.some.inj (C.2.2.2.1.symm.trans hown2)
  have h6 := u_fits hfc hkC hkind (Or.inr hlay) hi0 (o3 k hk) hn hfit
  refine W.putFinK C.1 C.2.1 C.2.2.2.1 (hts _ hw) hi hst hcf hin2 (by rw [q2]; exact h6) q1 q3 (by rw [hsl]; exact k2_hasslot (q4 k hk)) rfl rfl hd fun H' e1 e2 e4 => ?_
  rw [hsl] at e1
  refine kk H' _ lr _ (In_up hI hr e2 e4 (ce_obj_of hc0 ht (w := updV w k z) ⟨_, e1, q2, q3, t_set q4 hap hk z⟩ fun j hj => ?_) fun hD => absurd hD (hE h)) (lc_st hL hr) hl hs
  by_cases e : j = k
  · subst e
    rw [up_same, show updV w j z j = z from if_pos rfl, hkd]
    exact h0
  · rw [up_ne v (fun q => e (by omega)), show updV w k z j = w j from if_neg e]
    exact hw2 j hj
theorem nvQ {B : Nat} {t : FieldType} (ht : kd_ t = 2) (hg : ∀ z, (z = .null ∨ ∃ a, z = .ref a) → narrow t z = z ∧ fits t z = true) {x : Int} : ∀ z, vo_ B 2 x z → narrow t z = z ∧ fits t z = true := by
  rintro z (⟨_, rfl⟩ | ⟨_, rfl⟩)
  · exact hg _ (Or.inl rfl)
  · exact hg _ (Or.inr ⟨_, rfl⟩)
theorem g_objI (C : MC_ E p s m c cc nL own) {index : Nat} (kl : Cond.methodLink own index Lib.objectInit ∈ tb_) (ki : Cond.instanceMethod Lib.objectInit ∈ tb_) (kc : Cond.code Lib.objectInit ⟨#[0xb1]⟩ 1 none ∈ tb_) (hr : 0 < h) (hR : 1 ≤ R.frames ∧ cat_ st + 12 ≤ R.locals) (hd : decode cc pc = .ok (.invokespecial index, 3)) (kk : G_ E p l e R s m args below meth c nL sz0 Q (pc + 3) ls st v sz) : G_ E p l e R s m args below meth c nL sz0 Q pc ls ((2, h) :: st) v sz := fun H locs lr sr hI hL hl hs => by
  obtain ⟨_, zr2, rfl, h1, hs⟩ := hs
  rcases h1 with ⟨e3, rfl⟩ | ⟨e3, rfl⟩
  · omega
  have hts := C.2.2.2.2.at args
  obtain ⟨lq, hl1, hl2⟩ := id hl
  exact W.objInit C.1 C.2.1 C.2.2.2.1 (hts _ kl) (hts _ ki) (hts _ kc) rfl (hl1.1.trans C.2.2.1.symm) rfl hd hR.1 (by rw [so_cat hs]; show 2 * 0 + _ + 12 ≤ _; omega) (kk H locs lr _ hI hL hl hs)
/-- a reference into an array of references that isn't static yet -/
theorem g_aast (C : MC_ E p s m c cc nL own) {ci N : Nat} {Cn : String} {T : u_T} {ty : Nat → FieldType} (t n : Nat) (hc : cl_ok ci Cn T N ty) (htt : t = 25 ∧ Cn = "TraceDesk$Step" ∨ t = 26 ∧ Cn = "TraceDesk$Item" ∨ t = 27 ∧ Cn = "TraceDesk$Trace") (hE : ∀ a, ¬ E.2.2.2.2.2 a) (hr : 0 < h ∧ h < sz) (ht : ty_ h = t) (hln : ln_ h = n) (hi : 0 ≤ i ∧ i < (n : Int)) (hrx : 0 < x ∧ x < sz) (htx : ty_ x = ci) (hd : decode cc pc = .ok (.aastore, 1)) (kk : G_ E p l e R s m args below meth c nL sz0 Q (pc + 1) ls st (up_ v h i x) sz) : G_ E p l e R s m args below meth c nL sz0 Q pc ls ((2, x) :: (0, i) :: (2, h) :: st) v sz := fun H locs lr sr hI hL hl hs => by
  obtain ⟨_, _, rfl, h2, _, _, rfl, ⟨X, rfl, eX⟩, _, zr2, rfl, h1, hs⟩ := hs
  rcases h1 with ⟨e3, rfl⟩ | ⟨e3, rfl⟩
  · omega
  rcases h2 with ⟨e4, rfl⟩ | ⟨e4, rfl⟩
  · omega
  have hKs := C.2.2.2.2
  have h20 : ¬ t < 20 := by rcases htt with ⟨h, _⟩ | ⟨h, _⟩ | ⟨h, _⟩ <;> omega
  obtain ⟨w, c1, c2⟩ := ce_arr hI hr ht hln h20
  obtain ⟨w5, ⟨cellV, g1, g2, g3, -⟩, -⟩ := ce_obj hI hc hrx htx
  obtain ⟨b1, b2, b3⟩ := inI (X := X) (n := n) (by rw [eX]; exact hi)
  have hcls := (hKs.2.1 ci _ hc.1).2
  obtain ⟨kC, hkC, -⟩ := hcls.2
  have hkd : kd_ (at_ (t - 20)) = 2 := by rcases htt with ⟨rfl, _⟩ | ⟨rfl, _⟩ | ⟨rfl, _⟩ <;> rfl
  have hRA : ∃ (kA : Class) (comp : ClassId), s.vm.classes[E.2.2.2.2.1 (t - 20)]? = some kA ∧ kA.kind = .array comp (.object Cn) ∧ s.vm.findClass Cn = some comp := by
    rcases htt with ⟨rfl, rfl⟩ | ⟨rfl, rfl⟩ | ⟨rfl, rfl⟩
    · obtain ⟨kA, comp, k1, k2, k3, -⟩ := (hKs.2.2 5 _ rfl).2
      exact ⟨kA, comp, k1, k2, k3⟩
    · obtain ⟨kA, comp, k1, k2, k3, -⟩ := (hKs.2.2 6 _ rfl).2
      exact ⟨kA, comp, k1, k2, k3⟩
    · obtain ⟨kA, comp, k1, k2, k3, -⟩ := (hKs.2.2 7 _ rfl).2
      exact ⟨kA, comp, k1, k2, k3⟩
  obtain ⟨kA, comp, k1, k2, k3⟩ := hRA
  have hcomp : comp = E.2.2.1 ci := Option.some.inj (k3.symm.trans hcls.1)
  subst hcomp
  refine W.aast C.1 C.2.1 c1 (fun q h => by cases h) (fun h => by cases h) k1 k2 rfl hkC ⟨fun q => b1 (Or.inl q), by rw [arrV_size]; exact Nat.not_le.mp fun q => b1 (Or.inr q)⟩ g1 (fun q h => by rw [g3] at h; cases h) (by rw [g2]; exact hkC) (by rw [g2]; exact va_assign hcls) rfl rfl hd fun H1 e1 z1 oq => ?_
  rw [arrV_store, b2] at e1
  subst eX
  refine kk H1 _ lr _ (In_up hI hr z1 oq (ce_arr_of ht hln h20 e1 fun k hk => ?_) fun hD => absurd hD (hE h)) (lc_st hL hr) hl hs
  by_cases q : k = X.toInt.toNat
  · subst q
    rw [Int.toNat_of_nonneg hi.1, up_same, show updV w X.toInt.toNat (.ref (E.1 + x.toNat)) X.toInt.toNat = .ref (E.1 + x.toNat) from if_pos rfl, hkd]
    exact Or.inr ⟨e4, rfl⟩
  · rw [up_ne v (fun q2 => q (by omega)), show updV w X.toInt.toNat (.ref (E.1 + x.toNat)) k = w k from if_neg q]
    exact c2 k hk
end GN
