/-! THE CLAIM OUT OF ONE WALK OF THE LAW'S BODY. Your part is whole_start (and what it stands on); all else here is the same for every law, but numbers. -/
def R_law : String := "TraceDeskLaw"
def lw_P (b : Addr) (xs : List Int32) (args : Array Value) (s : State) : Prop := args = #[.ref b] ∧ s.IntsAt b xs ∧ xs.length ≤ 3072 ∧ (Jvm.Cond.and given_1 narrow_1).before args s = true
def lw_Q (_ : Array Value) (s : State) (o : Outcome) (t : State) : Prop := o = .returned (some (.int 1)) ∧ Framed s o t [] 600000 7302250
def lw_Z (below : List Frame) (a : Array Value) (s : State) : State → Prop := fun t => ∃ o, t.status = .running ∧ Ended t below o ∧ lw_Q a s o t
/-- the law's own end, with 1 on the stack, nothing written that was there before, its room as the claim has it -/
theorem lw_ret {p : Program} {l : Launch} {e : Env} {s : State} {m : MethodId} {below : List Frame} {meth : Method} {c : Code} {b : Nat} (hx : p.tables.exec = Jvm.exec) (hb : c.code = code) (hr : meth.sig.returnType = ret) (hlocks : meth.locks = false) {pc : Nat} {H : Heap} {ls : Array Slot} (hdg : decode code pc = .ok (.ireturn, 1)) : W p l e room_1 s m #[Value.ref b] below meth c H [] 600000 7302250 (lw_Z below #[Value.ref b] s) (F0 m pc ls [.int 1]) := by
  intro T hT X
  obtain ⟨fs, hret, hrun, hended, hW, hframe⟩ := X.leave (v := some (.int 1)) (hlocks := hlocks) (fun h => by rw [hr] at h; cases h)
  have hmeth' : T.vm.method? m = some meth := X.method'
  refine ⟨T.setFrames fs, ?_, .returned (some (.int 1)), hrun, hended, rfl, ⟨_, rfl⟩, hW, hframe⟩
  jvm_step X.here [X.here.top, hx, hb, hdg, hmeth', hr, ret, narrow_b1]
  (try refine ⟨rfl, ?_⟩); (try refine ⟨rfl, ?_⟩)
  first | (intro acts; rw [hret _ acts rfl rfl rfl]) | rw [hret _ _ rfl rfl rfl]
  exact Steps.refl _
/-- what holds at the law's entry: the machine, the code, the tables' words (any of lw_tbl by 'hts w (by decide +kernel)'), the script of L ints xs at the cell b, what the Statement gives of the start (any of its parts by flat_of_before) -/
def lw_At (p : Program) (s : State) (m : MethodId) (meth : Method) (c : Code) (b L : Nat) (xs : Nat → Int32) : Prop :=
  p.tables.exec = Jvm.exec ∧ c.code = code ∧ meth.sig.returnType = ret ∧ c.maxLocals = 4 ∧ s.vm.findClass R_law = some m.cls ∧ (∀ w ∈ lw_tbl, w.before #[Value.ref b] s = true) ∧ va_X b L xs s s.heap ∧ b < s.heap.size ∧ meth.locks = false ∧ (Jvm.Cond.and given_1 narrow_1).before #[Value.ref b] s = true
def SX_ (E : En_) (b L : Nat) (xs : Nat → Int32) (s : State) : Prop := va_X b L xs s E.2.1 ∧ ¬ SA_ E b ∧ L < 100000
section GLW
variable {E : En_} {p : Program} {l : Launch} {e : Env} {R : Room} {s : State} {m : MethodId} {args : Array Value} {below : List Frame} {meth : Method} {c : Code} {nL : Nat} {sz0 sz : Int} {Q : State → Prop} {cc : ByteArray} {own : String} {pc : Nat} {ls ls' : List (Nat × AV_)} {st : List AV_} {v : V_} {x y i : Int} {b L : Nat} {xs : Nat → Int32}
theorem g_xld (C : MC_ E p s m c cc nL own) (hX : SX_ E b L xs s) (hi : 0 ≤ i ∧ i < (L : Int)) (hd : decode cc pc = .ok (.iaload, 1)) (kk : G_ E p l e R s m args below meth c nL sz0 Q (pc + 1) ls ((0, (xs i.toNat).toInt) :: st) v sz) : G_ E p l e R s m args below meth c nL sz0 Q pc ls ((0, i) :: (3, (b : Int)) :: st) v sz := fun H locs lr sr hI hL hl hs => by
  obtain ⟨_, _, rfl, ⟨X, rfl, rfl⟩, _, zr, rfl, h0, hs⟩ := hs
  have h0 : _ = Value.ref b := h0
  subst h0
  obtain ⟨⟨scr, h1, h2, h3, h4, h5⟩, h6, h7⟩ := hX
  obtain ⟨b1, b2, b3⟩ := inI (n := L) (X := X) hi
  exact W.iald (v := .int (xs X.toInt.toNat)) C.1 C.2.1 (old_at hI h1 h6) h2 h3 (by rw [h4]; exact b1) (by rw [b2]; exact h5 _ b3) rfl rfl hd (kk H locs lr _ hI hL hl ⟨_, _, rfl, ⟨_, rfl, rfl⟩, hs⟩)
theorem g_xlen (C : MC_ E p s m c cc nL own) (hX : SX_ E b L xs s) (hd : decode cc pc = .ok (.arraylength, 1)) (kk : G_ E p l e R s m args below meth c nL sz0 Q (pc + 1) ls ((0, (L : Int)) :: st) v sz) : G_ E p l e R s m args below meth c nL sz0 Q pc ls ((3, (b : Int)) :: st) v sz := fun H locs lr sr hI hL hl hs => by
  obtain ⟨_, zr, rfl, h0, hs⟩ := hs
  have h0 : _ = Value.ref b := h0
  subst h0
  obtain ⟨⟨scr, h1, h2, h3, h4, h5⟩, h6, h7⟩ := hX
  exact W.alen (n := Int32.ofNat L) C.1 C.2.1 (old_at hI h1 h6) h2 (by rw [h4] <;> rfl) rfl rfl hd (kk H locs lr _ hI hL hl ⟨_, _, rfl, ⟨_, rfl, toInt_of rfl (by omega)⟩, hs⟩)
theorem g_lend (C : MC_ E p s m c code nL own) (hr : meth.sig.returnType = ret) (hlk : meth.locks = false) (hB : E.1 + 1 = s.heap.size) (hz : (sz - 1).toNat ≤ 600000 ∧ 2000 * (sz - 1).toNat ≤ 7302250) (hd : decode code pc = .ok (.ireturn, 1)) : G_ E p l e room_1 s m #[.ref b] below meth c nL 1 (lw_Z below #[.ref b] s) pc ls [(0, 1)] v sz := fun H locs lr sr hI hL hl hs => by
  obtain ⟨_, zr, rfl, ⟨X, rfl, eX⟩, hs⟩ := hs
  have hs : zr = [] := hs
  subst hs
  have e1 : X = 1 := Int32.toInt_inj.mp eX
  subst e1
  refine va_forget (fun q hq => by have := hL q hq; omega) (W.widen (k := 600000) (n := 7302250) hz.1 hz.2 ?_)
  exact lw_ret C.1 C.2.1 hr hlk hd
end GLW
