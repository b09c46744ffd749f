/-! the judgement G_ and its rows, an instruction each -/
def MC_ (E : En_) (p : Program) (s : State) (m : MethodId) (c : Code) (cc : ByteArray) (nL : Nat) (own : String) : Prop := p.tables.exec = Jvm.exec ∧ c.code = cc ∧ c.maxLocals = nL ∧ s.vm.findClass own = some m.cls ∧ KK_ E s
def G_ (E : En_) (p : Program) (l : Launch) (e : Env) (R : Room) (s : State) (m : MethodId) (args : Array Value) (below : List Frame) (meth : Method) (c : Code) (nL : Nat) (sz0 : Int) (Q : State → Prop) (pc : Nat) (ls : List (Nat × AV_)) (st : List AV_) (v : V_) (sz : Int) : Prop :=
  ∀ (H : Heap) (locs : List Loc) (lr : Array Slot) (sr : List Value), In_ E v sz H → (∀ q ∈ locs, E.1 < q.base) → lo_ E.1 nL ls lr → so_ E.1 st sr → W p l e R s m args below meth c H locs (sz - sz0).toNat (2000 * (sz - sz0).toNat) Q (F0 m pc lr sr)
def ro_ (B rk : Nat) (r : Int) (rv : Option Value) : Prop := match rk with
  | 9 => rv = none
  | k => ∃ z, rv = some z ∧ vo_ B k r z
def Qc_ (E : En_) (sz' : Int) (rk : Nat) (r : Int) (v' : V_) : Array Value → State → Outcome → State → Prop := fun _ _ o t => (∃ rv, o = .returned rv ∧ ro_ E.1 rk r rv) ∧ In_ E v' sz' t.heap
def Q_ (E : En_) (below : List Frame) (args : Array Value) (s : State) (sz0 sz' : Int) (rk : Nat) (r : Int) (v' : V_) : State → Prop := MQ below (Qc_ E sz' rk r v') args s (sz' - sz0).toNat (2000 * (sz' - sz0).toNat) (fun q => E.1 < q)
def bO_ (x y : Int) : Int := (Int32.ofInt x ||| Int32.ofInt y).toInt
def bA_ (x y : Int) : Int := (Int32.ofInt x &&& Int32.ofInt y).toInt
def bX_ (x y : Int) : Int := (Int32.ofInt x ^^^ Int32.ofInt y).toInt
def sL_ (x y : Int) : Int := (Int32.ofInt x <<< (Int32.ofInt y &&& 31)).toInt
def sR_ (x y : Int) : Int := (Int32.ofInt x >>> (Int32.ofInt y &&& 31)).toInt
def lO_ (x y : Int) : Int := (Int64.ofInt x ||| Int64.ofInt y).toInt
def lA_ (x y : Int) : Int := (Int64.ofInt x &&& Int64.ofInt y).toInt
def lL_ (x y : Int) : Int := (Int64.ofInt x <<< ((Int32.ofInt y).toInt64 &&& 63)).toInt
def lR_ (x y : Int) : Int := (Int64.ofInt x >>> ((Int32.ofInt y).toInt64 &&& 63)).toInt
def lc_ (x y : Int) : Int := if x > y then 1 else if x = y then 0 else -1
theorem i32_of (X : Int32) : Int32.ofInt X.toInt = X := Int32.ofInt_toInt X
theorem i64_of (X : Int64) : Int64.ofInt X.toInt = X := Int64.ofInt_toInt X
theorem bm32 (x : Int) : x.bmod (2 ^ 32) = wr_ x := by
  unfold Int.bmod wr_
  simp only [show ((2 ^ 32 : Nat) : Int) = 4294967296 from rfl]
  split <;> omega
theorem bm64 (x : Int) : x.bmod (2 ^ 64) = wl_ x := by
  unfold Int.bmod wl_
  simp only [show ((2 ^ 64 : Nat) : Int) = 18446744073709551616 from rfl]
  split <;> omega
theorem bm8 (x : Int) : x.bmod (2 ^ 8) = w8_ x := by
  unfold Int.bmod w8_
  simp only [show ((2 ^ 8 : Nat) : Int) = 256 from rfl]
  split <;> omega
theorem ti_add (X Y : Int32) : (X + Y).toInt = wr_ (X.toInt + Y.toInt) := by rw [Int32.toInt_add, bm32]
theorem ti_sub (X Y : Int32) : (X - Y).toInt = wr_ (X.toInt - Y.toInt) := by rw [Int32.toInt_sub, bm32]
theorem ti_mul (X Y : Int32) : (X * Y).toInt = wr_ (X.toInt * Y.toInt) := by rw [Int32.toInt_mul, bm32]
theorem ti_div (X Y : Int32) : (X / Y).toInt = wr_ (X.toInt.tdiv Y.toInt) := by rw [Int32.toInt_div, bm32]
theorem tl_add (X Y : Int64) : (X + Y).toInt = wl_ (X.toInt + Y.toInt) := by rw [Int64.toInt_add, bm64]
theorem tl_mul (X Y : Int64) : (X * Y).toInt = wl_ (X.toInt * Y.toInt) := by rw [Int64.toInt_mul, bm64]
theorem ti_ne0 {X : Int32} (h : X.toInt ≠ 0) : ¬ X = 0 := fun e => h (by rw [e]; rfl)
theorem ti_r (X : Int32) : -2147483648 ≤ X.toInt ∧ X.toInt < 2147483648 := by
  have h1 := Int32.le_toInt X
  have h2 := Int32.toInt_lt X
  omega
section GR
variable {E : En_} {p : Program} {l : Launch} {e : Env} {R : Room} {s : State} {m : MethodId} {args : Array Value} {below : List Frame} {meth : Method} {c : Code} {nL : Nat} {sz0 sz : Int} {Q : State → Prop} {cc : ByteArray} {own : String} {pc : Nat} {ls ls' : List (Nat × AV_)} {st : List AV_} {v : V_} {x y : Int}
theorem g_sub (ks : List Nat) (hk : ks.all (fun k => decide (k < ls.length)) = true) (h : pk_ ls ks = ls') (kk : G_ E p l e R s m args below meth c nL sz0 Q pc ls' st v sz) : G_ E p l e R s m args below meth c nL sz0 Q pc ls st v sz := by
  intro H locs lr sr hI hL hl hs
  obtain ⟨q, h1, h2⟩ := hl
  refine kk H locs lr sr hI hL ⟨_, lv_sub h1 ks rfl, ?_⟩ hs
  rw [← h]
  exact ml_pick h2 ks (fun k hq => by simpa using List.all_eq_true.mp hk k hq)
theorem g_iconst (C : MC_ E p s m c cc nL own) {n : Int} (hd : decode cc pc = .ok (.iconst n, 1)) (hn : (Int32.ofInt n).toInt = n) (kk : G_ E p l e R s m args below meth c nL sz0 Q (pc + 1) ls ((0, n) :: st) v sz) : G_ E p l e R s m args below meth c nL sz0 Q pc ls st v sz := fun H locs lr sr hI hL hl hs =>
  lv_iconst C.1 C.2.1 hd rfl (kk H locs lr _ hI hL hl ⟨_, _, rfl, ⟨_, rfl, hn⟩, hs⟩)
theorem g_bipush (C : MC_ E p s m c cc nL own) {n : Int} (hd : decode cc pc = .ok (.bipush n, 2)) (hn : (Int8.ofInt n).toInt32.toInt = n) (kk : G_ E p l e R s m args below meth c nL sz0 Q (pc + 2) ls ((0, n) :: st) v sz) : G_ E p l e R s m args below meth c nL sz0 Q pc ls st v sz := fun H locs lr sr hI hL hl hs =>
  lv_bipush C.1 C.2.1 hd rfl (kk H locs lr _ hI hL hl ⟨_, _, rfl, ⟨_, rfl, hn⟩, hs⟩)
theorem g_sipush (C : MC_ E p s m c cc nL own) {n : Int} (hd : decode cc pc = .ok (.sipush n, 3)) (hn : (Int16.ofInt n).toInt32.toInt = n) (kk : G_ E p l e R s m args below meth c nL sz0 Q (pc + 3) ls ((0, n) :: st) v sz) : G_ E p l e R s m args below meth c nL sz0 Q pc ls st v sz := fun H locs lr sr hI hL hl hs =>
  lv_sipush C.1 C.2.1 hd rfl (kk H locs lr _ hI hL hl ⟨_, _, rfl, ⟨_, rfl, hn⟩, hs⟩)
theorem g_lconst (C : MC_ E p s m c cc nL own) {n : Fin 2} {z : Int} (hd : decode cc pc = .ok (.lconst n, 1)) (hn : (Int64.ofNat (n : Nat)).toInt = z) (kk : G_ E p l e R s m args below meth c nL sz0 Q (pc + 1) ls ((1, z) :: st) v sz) : G_ E p l e R s m args below meth c nL sz0 Q pc ls st v sz := fun H locs lr sr hI hL hl hs =>
  lv_lconst C.1 C.2.1 hd rfl (kk H locs lr _ hI hL hl ⟨_, _, rfl, ⟨_, rfl, hn⟩, hs⟩)
theorem g_null (C : MC_ E p s m c cc nL own) (hd : decode cc pc = .ok (.aconst_null, 1)) (kk : G_ E p l e R s m args below meth c nL sz0 Q (pc + 1) ls ((2, 0) :: st) v sz) : G_ E p l e R s m args below meth c nL sz0 Q pc ls st v sz := fun H locs lr sr hI hL hl hs =>
  lv_null C.1 C.2.1 hd (kk H locs lr _ hI hL hl ⟨_, _, rfl, Or.inl ⟨rfl, rfl⟩, hs⟩)
theorem g_ldc (C : MC_ E p s m c cc nL own) {index : Nat} {X : Int32} {n : Int} (hw : Cond.constant own index X ∈ tb_) (hd : decode cc pc = .ok (.ldc index, 2)) (hn : X.toInt = n) (kk : G_ E p l e R s m args below meth c nL sz0 Q (pc + 2) ls ((0, n) :: st) v sz) : G_ E p l e R s m args below meth c nL sz0 Q pc ls st v sz := fun H locs lr sr hI hL hl hs =>
  lv_ldc C.1 C.2.1 C.2.2.2.1 (C.2.2.2.2.at args _ hw) hd (kk H locs lr _ hI hL hl ⟨_, _, rfl, ⟨_, rfl, hn⟩, hs⟩)
theorem g_ldcw (C : MC_ E p s m c cc nL own) {index : Nat} {X : Int32} {n : Int} (hw : Cond.constant own index X ∈ tb_) (hd : decode cc pc = .ok (.ldc_w index, 3)) (hn : X.toInt = n) (kk : G_ E p l e R s m args below meth c nL sz0 Q (pc + 3) ls ((0, n) :: st) v sz) : G_ E p l e R s m args below meth c nL sz0 Q pc ls st v sz := fun H locs lr sr hI hL hl hs =>
  lv_ldcw C.1 C.2.1 C.2.2.2.1 (C.2.2.2.2.at args _ hw) hd (kk H locs lr _ hI hL hl ⟨_, _, rfl, ⟨_, rfl, hn⟩, hs⟩)
theorem g_ldc2 (C : MC_ E p s m c cc nL own) {index : Nat} {X : Int64} {n : Int} (hw : Cond.constantLong own index X ∈ tb_) (hd : decode cc pc = .ok (.ldc2_w index, 3)) (hn : X.toInt = n) (kk : G_ E p l e R s m args below meth c nL sz0 Q (pc + 3) ls ((1, n) :: st) v sz) : G_ E p l e R s m args below meth c nL sz0 Q pc ls st v sz := fun H locs lr sr hI hL hl hs =>
  lv_ldc2 C.1 C.2.1 C.2.2.2.1 (C.2.2.2.2.at args _ hw) hd (kk H locs lr _ hI hL hl ⟨_, _, rfl, ⟨_, rfl, hn⟩, hs⟩)
theorem lo_at {B n : Nat} {lr : Array Slot} (hl : lo_ B n ls lr) (k : Nat) {i : Nat} {a : AV_} (hk : ls[k]? = some (i, a)) : ∃ z, lr[i]? = some (.val z) ∧ vo_ B a.1 a.2 z := by
  obtain ⟨q, h1, h2⟩ := hl
  obtain ⟨z, e1, e2⟩ := ml_get h2 hk
  exact ⟨z, lv_at h1 k e1, e2⟩
theorem g_iload_n (C : MC_ E p s m c cc nL own) {f : Fin 4} (hd : decode cc pc = .ok (.iload_n f, 1)) (k : Nat) (hk : ls[k]? = some (f.val, (0, x))) (kk : G_ E p l e R s m args below meth c nL sz0 Q (pc + 1) ls ((0, x) :: st) v sz) : G_ E p l e R s m args below meth c nL sz0 Q pc ls st v sz := fun H locs lr sr hI hL hl hs => by
  obtain ⟨z, e1, X, rfl, e2⟩ := lo_at hl k hk
  exact lv_iload_n C.1 C.2.1 hd rfl e1 (kk H locs lr _ hI hL hl ⟨_, _, rfl, ⟨_, rfl, e2⟩, hs⟩)
theorem g_iload (C : MC_ E p s m c cc nL own) {i : Nat} (hd : decode cc pc = .ok (.iload i, 2)) (k : Nat) (hk : ls[k]? = some (i, (0, x))) (kk : G_ E p l e R s m args below meth c nL sz0 Q (pc + 2) ls ((0, x) :: st) v sz) : G_ E p l e R s m args below meth c nL sz0 Q pc ls st v sz := fun H locs lr sr hI hL hl hs => by
  obtain ⟨z, e1, X, rfl, e2⟩ := lo_at hl k hk
  exact lv_iload C.1 C.2.1 hd e1 (kk H locs lr _ hI hL hl ⟨_, _, rfl, ⟨_, rfl, e2⟩, hs⟩)
theorem g_lload_n (C : MC_ E p s m c cc nL own) {f : Fin 4} (hd : decode cc pc = .ok (.lload_n f, 1)) (k : Nat) (hk : ls[k]? = some (f.val, (1, x))) (kk : G_ E p l e R s m args below meth c nL sz0 Q (pc + 1) ls ((1, x) :: st) v sz) : G_ E p l e R s m args below meth c nL sz0 Q pc ls st v sz := fun H locs lr sr hI hL hl hs => by
  obtain ⟨z, e1, X, rfl, e2⟩ := lo_at hl k hk
  exact lv_lload_n C.1 C.2.1 hd rfl e1 (kk H locs lr _ hI hL hl ⟨_, _, rfl, ⟨_, rfl, e2⟩, hs⟩)
theorem g_lload (C : MC_ E p s m c cc nL own) {i : Nat} (hd : decode cc pc = .ok (.lload i, 2)) (k : Nat) (hk : ls[k]? = some (i, (1, x))) (kk : G_ E p l e R s m args below meth c nL sz0 Q (pc + 2) ls ((1, x) :: st) v sz) : G_ E p l e R s m args below meth c nL sz0 Q pc ls st v sz := fun H locs lr sr hI hL hl hs => by
  obtain ⟨z, e1, X, rfl, e2⟩ := lo_at hl k hk
  exact lv_lload C.1 C.2.1 hd e1 (kk H locs lr _ hI hL hl ⟨_, _, rfl, ⟨_, rfl, e2⟩, hs⟩)
theorem g_aload_n (C : MC_ E p s m c cc nL own) {f : Fin 4} (hd : decode cc pc = .ok (.aload_n f, 1)) (k : Nat) (hk : ls[k]? = some (f.val, (2, x))) (kk : G_ E p l e R s m args below meth c nL sz0 Q (pc + 1) ls ((2, x) :: st) v sz) : G_ E p l e R s m args below meth c nL sz0 Q pc ls st v sz := fun H locs lr sr hI hL hl hs => by
  obtain ⟨z, e1, e2⟩ := lo_at hl k hk
  rcases e2 with ⟨e3, rfl⟩ | ⟨e3, rfl⟩
  · exact lv_aload_nN C.1 C.2.1 hd rfl e1 (kk H locs lr _ hI hL hl ⟨_, _, rfl, Or.inl ⟨e3, rfl⟩, hs⟩)
  · exact lv_aload_n C.1 C.2.1 hd rfl e1 (kk H locs lr _ hI hL hl ⟨_, _, rfl, Or.inr ⟨e3, rfl⟩, hs⟩)
theorem g_aload (C : MC_ E p s m c cc nL own) {i : Nat} (hd : decode cc pc = .ok (.aload i, 2)) (k : Nat) (hk : ls[k]? = some (i, (2, x))) (kk : G_ E p l e R s m args below meth c nL sz0 Q (pc + 2) ls ((2, x) :: st) v sz) : G_ E p l e R s m args below meth c nL sz0 Q pc ls st v sz := fun H locs lr sr hI hL hl hs => by
  obtain ⟨z, e1, e2⟩ := lo_at hl k hk
  rcases e2 with ⟨e3, rfl⟩ | ⟨e3, rfl⟩
  · exact lv_aloadN C.1 C.2.1 hd e1 (kk H locs lr _ hI hL hl ⟨_, _, rfl, Or.inl ⟨e3, rfl⟩, hs⟩)
  · exact lv_aload C.1 C.2.1 hd e1 (kk H locs lr _ hI hL hl ⟨_, _, rfl, Or.inr ⟨e3, rfl⟩, hs⟩)
theorem g_istore_n (C : MC_ E p s m c cc nL own) {f : Fin 4} (hd : decode cc pc = .ok (.istore_n f, 1)) (hn : f.val < nL) (hl' : (f.val, (0, x)) :: st1_ f.val ls = ls') (kk : G_ E p l e R s m args below meth c nL sz0 Q (pc + 1) ls' st v sz) : G_ E p l e R s m args below meth c nL sz0 Q pc ls ((0, x) :: st) v sz := fun H locs lr sr hI hL hl hs => by
  obtain ⟨_, zr, rfl, ⟨X, rfl, rfl⟩, hs⟩ := hs
  obtain ⟨q, h1, h2⟩ := hl
  exact lv_istore_n C.1 C.2.1 hd rfl h1 hn rfl (fun lr' h => kk H locs lr' _ hI hL ⟨_, h, by rw [← hl']; exact ⟨_, _, rfl, ⟨_, rfl, rfl⟩, ml_st1 h2⟩⟩ hs)
theorem g_istore (C : MC_ E p s m c cc nL own) {i : Nat} (hd : decode cc pc = .ok (.istore i, 2)) (hn : i < nL) (hl' : (i, (0, x)) :: st1_ i ls = ls') (kk : G_ E p l e R s m args below meth c nL sz0 Q (pc + 2) ls' st v sz) : G_ E p l e R s m args below meth c nL sz0 Q pc ls ((0, x) :: st) v sz := fun H locs lr sr hI hL hl hs => by
  obtain ⟨_, zr, rfl, ⟨X, rfl, rfl⟩, hs⟩ := hs
  obtain ⟨q, h1, h2⟩ := hl
  exact lv_istore C.1 C.2.1 hd h1 hn rfl (fun lr' h => kk H locs lr' _ hI hL ⟨_, h, by rw [← hl']; exact ⟨_, _, rfl, ⟨_, rfl, rfl⟩, ml_st1 h2⟩⟩ hs)
theorem g_lstore_n (C : MC_ E p s m c cc nL own) {f : Fin 4} (hd : decode cc pc = .ok (.lstore_n f, 1)) (hn : f.val + 1 < nL) (hl' : (f.val, (1, x)) :: st2_ f.val ls = ls') (kk : G_ E p l e R s m args below meth c nL sz0 Q (pc + 1) ls' st v sz) : G_ E p l e R s m args below meth c nL sz0 Q pc ls ((1, x) :: st) v sz := fun H locs lr sr hI hL hl hs => by
  obtain ⟨_, zr, rfl, ⟨X, rfl, rfl⟩, hs⟩ := hs
  obtain ⟨q, h1, h2⟩ := hl
  exact lv_lstore_n C.1 C.2.1 hd rfl h1 hn rfl (fun lr' h => kk H locs lr' _ hI hL ⟨_, h, by rw [← hl']; exact ⟨_, _, rfl, ⟨_, rfl, rfl⟩, ml_st2 h2⟩⟩ hs)
theorem g_lstore (C : MC_ E p s m c cc nL own) {i : Nat} (hd : decode cc pc = .ok (.lstore i, 2)) (hn : i + 1 < nL) (hl' : (i, (1, x)) :: st2_ i ls = ls') (kk : G_ E p l e R s m args below meth c nL sz0 Q (pc + 2) ls' st v sz) : G_ E p l e R s m args below meth c nL sz0 Q pc ls ((1, x) :: st) v sz := fun H locs lr sr hI hL hl hs => by
  obtain ⟨_, zr, rfl, ⟨X, rfl, rfl⟩, hs⟩ := hs
  obtain ⟨q, h1, h2⟩ := hl
  exact lv_lstore C.1 C.2.1 hd h1 hn rfl (fun lr' h => kk H locs lr' _ hI hL ⟨_, h, by rw [← hl']; exact ⟨_, _, rfl, ⟨_, rfl, rfl⟩, ml_st2 h2⟩⟩ hs)
theorem g_astore_n (C : MC_ E p s m c cc nL own) {f : Fin 4} (hd : decode cc pc = .ok (.astore_n f, 1)) (hn : f.val < nL) (hl' : (f.val, (2, x)) :: st1_ f.val ls = ls') (kk : G_ E p l e R s m args below meth c nL sz0 Q (pc + 1) ls' st v sz) : G_ E p l e R s m args below meth c nL sz0 Q pc ls ((2, x) :: st) v sz := fun H locs lr sr hI hL hl hs => by
  obtain ⟨_, zr, rfl, e2, hs⟩ := hs
  obtain ⟨q, h1, h2⟩ := hl
  rcases e2 with ⟨e3, rfl⟩ | ⟨e3, rfl⟩
  · exact lv_astore_nN C.1 C.2.1 hd rfl h1 hn rfl (fun lr' h => kk H locs lr' _ hI hL ⟨_, h, by rw [← hl']; exact ⟨_, _, rfl, Or.inl ⟨e3, rfl⟩, ml_st1 h2⟩⟩ hs)
  · exact lv_astore_n C.1 C.2.1 hd rfl h1 hn rfl (fun lr' h => kk H locs lr' _ hI hL ⟨_, h, by rw [← hl']; exact ⟨_, _, rfl, Or.inr ⟨e3, rfl⟩, ml_st1 h2⟩⟩ hs)
theorem g_astore (C : MC_ E p s m c cc nL own) {i : Nat} (hd : decode cc pc = .ok (.astore i, 2)) (hn : i < nL) (hl' : (i, (2, x)) :: st1_ i ls = ls') (kk : G_ E p l e R s m args below meth c nL sz0 Q (pc + 2) ls' st v sz) : G_ E p l e R s m args below meth c nL sz0 Q pc ls ((2, x) :: st) v sz := fun H locs lr sr hI hL hl hs => by
  obtain ⟨_, zr, rfl, e2, hs⟩ := hs
  obtain ⟨q, h1, h2⟩ := hl
  rcases e2 with ⟨e3, rfl⟩ | ⟨e3, rfl⟩
  · exact lv_astoreN C.1 C.2.1 hd h1 hn rfl (fun lr' h => kk H locs lr' _ hI hL ⟨_, h, by rw [← hl']; exact ⟨_, _, rfl, Or.inl ⟨e3, rfl⟩, ml_st1 h2⟩⟩ hs)
  · exact lv_astore C.1 C.2.1 hd h1 hn rfl (fun lr' h => kk H locs lr' _ hI hL ⟨_, h, by rw [← hl']; exact ⟨_, _, rfl, Or.inr ⟨e3, rfl⟩, ml_st1 h2⟩⟩ hs)
theorem g_iinc (C : MC_ E p s m c cc nL own) {i : Nat} {n : Int} (hd : decode cc pc = .ok (.iinc i n, 3)) (k : Nat) (hk : ls[k]? = some (i, (0, x))) (hn : i < nL) (hi : (Int32.ofInt n).toInt = n) (hl' : (i, (0, wr_ (x + n))) :: st1_ i ls = ls') (kk : G_ E p l e R s m args below meth c nL sz0 Q (pc + 3) ls' st v sz) : G_ E p l e R s m args below meth c nL sz0 Q pc ls st v sz := fun H locs lr sr hI hL hl hs => by
  obtain ⟨q, h1, h2⟩ := hl
  obtain ⟨z, e1, X, rfl, e2⟩ := ml_get h2 hk
  exact lv_iinc C.1 C.2.1 hd h1 e1 rfl hn rfl (fun lr' h => kk H locs lr' _ hI hL ⟨_, h, by rw [← hl']; exact ⟨_, _, rfl, ⟨_, rfl, by rw [ti_add, hi, e2]⟩, ml_st1 h2⟩⟩ hs)
theorem g_iadd (C : MC_ E p s m c cc nL own) (hd : decode cc pc = .ok (.iadd, 1)) (kk : G_ E p l e R s m args below meth c nL sz0 Q (pc + 1) ls ((0, wr_ (x + y)) :: st) v sz) : G_ E p l e R s m args below meth c nL sz0 Q pc ls ((0, y) :: (0, x) :: st) v sz := fun H locs lr sr hI hL hl hs => by
  obtain ⟨_, _, rfl, ⟨Y, rfl, rfl⟩, _, _, rfl, ⟨X, rfl, rfl⟩, hs⟩ := hs
  exact lv_iadd C.1 C.2.1 hd (kk H locs lr _ hI hL hl ⟨_, _, rfl, ⟨_, rfl, ti_add X Y⟩, hs⟩)
theorem g_isub (C : MC_ E p s m c cc nL own) (hd : decode cc pc = .ok (.isub, 1)) (kk : G_ E p l e R s m args below meth c nL sz0 Q (pc + 1) ls ((0, wr_ (x - y)) :: st) v sz) : G_ E p l e R s m args below meth c nL sz0 Q pc ls ((0, y) :: (0, x) :: st) v sz := fun H locs lr sr hI hL hl hs => by
  obtain ⟨_, _, rfl, ⟨Y, rfl, rfl⟩, _, _, rfl, ⟨X, rfl, rfl⟩, hs⟩ := hs
  exact lv_isub C.1 C.2.1 hd (kk H locs lr _ hI hL hl ⟨_, _, rfl, ⟨_, rfl, ti_sub X Y⟩, hs⟩)
theorem g_imul (C : MC_ E p s m c cc nL own) (hd : decode cc pc = .ok (.imul, 1)) (kk : G_ E p l e R s m args below meth c nL sz0 Q (pc + 1) ls ((0, wr_ (x * y)) :: st) v sz) : G_ E p l e R s m args below meth c nL sz0 Q pc ls ((0, y) :: (0, x) :: st) v sz := fun H locs lr sr hI hL hl hs => by
  obtain ⟨_, _, rfl, ⟨Y, rfl, rfl⟩, _, _, rfl, ⟨X, rfl, rfl⟩, hs⟩ := hs
  exact lv_imul C.1 C.2.1 hd (kk H locs lr _ hI hL hl ⟨_, _, rfl, ⟨_, rfl, ti_mul X Y⟩, hs⟩)
theorem g_idiv (C : MC_ E p s m c cc nL own) (hd : decode cc pc = .ok (.idiv, 1)) (hy : y ≠ 0) (kk : G_ E p l e R s m args below meth c nL sz0 Q (pc + 1) ls ((0, wr_ (x.tdiv y)) :: st) v sz) : G_ E p l e R s m args below meth c nL sz0 Q pc ls ((0, y) :: (0, x) :: st) v sz := fun H locs lr sr hI hL hl hs => by
  obtain ⟨_, _, rfl, ⟨Y, rfl, rfl⟩, _, _, rfl, ⟨X, rfl, rfl⟩, hs⟩ := hs
  exact lv_idiv C.1 C.2.1 hd (ti_ne0 hy) (kk H locs lr _ hI hL hl ⟨_, _, rfl, ⟨_, rfl, ti_div X Y⟩, hs⟩)
theorem g_irem (C : MC_ E p s m c cc nL own) (hd : decode cc pc = .ok (.irem, 1)) (hy : y ≠ 0) (kk : G_ E p l e R s m args below meth c nL sz0 Q (pc + 1) ls ((0, x.tmod y) :: st) v sz) : G_ E p l e R s m args below meth c nL sz0 Q pc ls ((0, y) :: (0, x) :: st) v sz := fun H locs lr sr hI hL hl hs => by
  obtain ⟨_, _, rfl, ⟨Y, rfl, rfl⟩, _, _, rfl, ⟨X, rfl, rfl⟩, hs⟩ := hs
  exact lv_irem C.1 C.2.1 hd (ti_ne0 hy) (kk H locs lr _ hI hL hl ⟨_, _, rfl, ⟨_, rfl, rem_toInt X Y⟩, hs⟩)
theorem g_iand (C : MC_ E p s m c cc nL own) (hd : decode cc pc = .ok (.iand, 1)) (kk : G_ E p l e R s m args below meth c nL sz0 Q (pc + 1) ls ((0, bA_ x y) :: st) v sz) : G_ E p l e R s m args below meth c nL sz0 Q pc ls ((0, y) :: (0, x) :: st) v sz := fun H locs lr sr hI hL hl hs => by
  obtain ⟨_, _, rfl, ⟨Y, rfl, rfl⟩, _, _, rfl, ⟨X, rfl, rfl⟩, hs⟩ := hs
  exact lv_iand C.1 C.2.1 hd (kk H locs lr _ hI hL hl ⟨_, _, rfl, ⟨_, rfl, by rw [bA_, i32_of, i32_of]⟩, hs⟩)
theorem g_ior (C : MC_ E p s m c cc nL own) (hd : decode cc pc = .ok (.ior, 1)) (kk : G_ E p l e R s m args below meth c nL sz0 Q (pc + 1) ls ((0, bO_ x y) :: st) v sz) : G_ E p l e R s m args below meth c nL sz0 Q pc ls ((0, y) :: (0, x) :: st) v sz := fun H locs lr sr hI hL hl hs => by
  obtain ⟨_, _, rfl, ⟨Y, rfl, rfl⟩, _, _, rfl, ⟨X, rfl, rfl⟩, hs⟩ := hs
  exact lv_ior C.1 C.2.1 hd (kk H locs lr _ hI hL hl ⟨_, _, rfl, ⟨_, rfl, by rw [bO_, i32_of, i32_of]⟩, hs⟩)
theorem g_ixor (C : MC_ E p s m c cc nL own) (hd : decode cc pc = .ok (.ixor, 1)) (kk : G_ E p l e R s m args below meth c nL sz0 Q (pc + 1) ls ((0, bX_ x y) :: st) v sz) : G_ E p l e R s m args below meth c nL sz0 Q pc ls ((0, y) :: (0, x) :: st) v sz := fun H locs lr sr hI hL hl hs => by
  obtain ⟨_, _, rfl, ⟨Y, rfl, rfl⟩, _, _, rfl, ⟨X, rfl, rfl⟩, hs⟩ := hs
  exact lv_ixor C.1 C.2.1 hd (kk H locs lr _ hI hL hl ⟨_, _, rfl, ⟨_, rfl, by rw [bX_, i32_of, i32_of]⟩, hs⟩)
theorem g_ishl (C : MC_ E p s m c cc nL own) (hd : decode cc pc = .ok (.ishl, 1)) (kk : G_ E p l e R s m args below meth c nL sz0 Q (pc + 1) ls ((0, sL_ x y) :: st) v sz) : G_ E p l e R s m args below meth c nL sz0 Q pc ls ((0, y) :: (0, x) :: st) v sz := fun H locs lr sr hI hL hl hs => by
  obtain ⟨_, _, rfl, ⟨Y, rfl, rfl⟩, _, _, rfl, ⟨X, rfl, rfl⟩, hs⟩ := hs
  exact lv_ishl C.1 C.2.1 hd (kk H locs lr _ hI hL hl ⟨_, _, rfl, ⟨_, rfl, by rw [sL_, i32_of, i32_of]⟩, hs⟩)
theorem g_ishr (C : MC_ E p s m c cc nL own) (hd : decode cc pc = .ok (.ishr, 1)) (kk : G_ E p l e R s m args below meth c nL sz0 Q (pc + 1) ls ((0, sR_ x y) :: st) v sz) : G_ E p l e R s m args below meth c nL sz0 Q pc ls ((0, y) :: (0, x) :: st) v sz := fun H locs lr sr hI hL hl hs => by
  obtain ⟨_, _, rfl, ⟨Y, rfl, rfl⟩, _, _, rfl, ⟨X, rfl, rfl⟩, hs⟩ := hs
  exact lv_ishr C.1 C.2.1 hd (kk H locs lr _ hI hL hl ⟨_, _, rfl, ⟨_, rfl, by rw [sR_, i32_of, i32_of]⟩, hs⟩)
theorem g_ladd (C : MC_ E p s m c cc nL own) (hd : decode cc pc = .ok (.ladd, 1)) (kk : G_ E p l e R s m args below meth c nL sz0 Q (pc + 1) ls ((1, wl_ (x + y)) :: st) v sz) : G_ E p l e R s m args below meth c nL sz0 Q pc ls ((1, y) :: (1, x) :: st) v sz := fun H locs lr sr hI hL hl hs => by
  obtain ⟨_, _, rfl, ⟨Y, rfl, rfl⟩, _, _, rfl, ⟨X, rfl, rfl⟩, hs⟩ := hs
  exact lv_ladd C.1 C.2.1 hd (kk H locs lr _ hI hL hl ⟨_, _, rfl, ⟨_, rfl, tl_add X Y⟩, hs⟩)
theorem g_lmul (C : MC_ E p s m c cc nL own) (hd : decode cc pc = .ok (.lmul, 1)) (kk : G_ E p l e R s m args below meth c nL sz0 Q (pc + 1) ls ((1, wl_ (x * y)) :: st) v sz) : G_ E p l e R s m args below meth c nL sz0 Q pc ls ((1, y) :: (1, x) :: st) v sz := fun H locs lr sr hI hL hl hs => by
  obtain ⟨_, _, rfl, ⟨Y, rfl, rfl⟩, _, _, rfl, ⟨X, rfl, rfl⟩, hs⟩ := hs
  exact lv_lmul C.1 C.2.1 hd (kk H locs lr _ hI hL hl ⟨_, _, rfl, ⟨_, rfl, tl_mul X Y⟩, hs⟩)
theorem g_land (C : MC_ E p s m c cc nL own) (hd : decode cc pc = .ok (.land, 1)) (kk : G_ E p l e R s m args below meth c nL sz0 Q (pc + 1) ls ((1, lA_ x y) :: st) v sz) : G_ E p l e R s m args below meth c nL sz0 Q pc ls ((1, y) :: (1, x) :: st) v sz := fun H locs lr sr hI hL hl hs => by
  obtain ⟨_, _, rfl, ⟨Y, rfl, rfl⟩, _, _, rfl, ⟨X, rfl, rfl⟩, hs⟩ := hs
  exact lv_land C.1 C.2.1 hd (kk H locs lr _ hI hL hl ⟨_, _, rfl, ⟨_, rfl, by rw [lA_, i64_of, i64_of]⟩, hs⟩)
theorem g_lor (C : MC_ E p s m c cc nL own) (hd : decode cc pc = .ok (.lor, 1)) (kk : G_ E p l e R s m args below meth c nL sz0 Q (pc + 1) ls ((1, lO_ x y) :: st) v sz) : G_ E p l e R s m args below meth c nL sz0 Q pc ls ((1, y) :: (1, x) :: st) v sz := fun H locs lr sr hI hL hl hs => by
  obtain ⟨_, _, rfl, ⟨Y, rfl, rfl⟩, _, _, rfl, ⟨X, rfl, rfl⟩, hs⟩ := hs
  exact lv_lor C.1 C.2.1 hd (kk H locs lr _ hI hL hl ⟨_, _, rfl, ⟨_, rfl, by rw [lO_, i64_of, i64_of]⟩, hs⟩)
theorem g_lshl (C : MC_ E p s m c cc nL own) (hd : decode cc pc = .ok (.lshl, 1)) (kk : G_ E p l e R s m args below meth c nL sz0 Q (pc + 1) ls ((1, lL_ x y) :: st) v sz) : G_ E p l e R s m args below meth c nL sz0 Q pc ls ((0, y) :: (1, x) :: st) v sz := fun H locs lr sr hI hL hl hs => by
  obtain ⟨_, _, rfl, ⟨Y, rfl, rfl⟩, _, _, rfl, ⟨X, rfl, rfl⟩, hs⟩ := hs
  exact lv_lshl C.1 C.2.1 hd rfl (kk H locs lr _ hI hL hl ⟨_, _, rfl, ⟨_, rfl, by rw [lL_, i32_of, i64_of]⟩, hs⟩)
theorem g_lshr (C : MC_ E p s m c cc nL own) (hd : decode cc pc = .ok (.lshr, 1)) (kk : G_ E p l e R s m args below meth c nL sz0 Q (pc + 1) ls ((1, lR_ x y) :: st) v sz) : G_ E p l e R s m args below meth c nL sz0 Q pc ls ((0, y) :: (1, x) :: st) v sz := fun H locs lr sr hI hL hl hs => by
  obtain ⟨_, _, rfl, ⟨Y, rfl, rfl⟩, _, _, rfl, ⟨X, rfl, rfl⟩, hs⟩ := hs
  exact lv_lshr C.1 C.2.1 hd rfl (kk H locs lr _ hI hL hl ⟨_, _, rfl, ⟨_, rfl, by rw [lR_, i32_of, i64_of]⟩, hs⟩)
theorem g_i2l (C : MC_ E p s m c cc nL own) (hd : decode cc pc = .ok (.i2l, 1)) (kk : G_ E p l e R s m args below meth c nL sz0 Q (pc + 1) ls ((1, x) :: st) v sz) : G_ E p l e R s m args below meth c nL sz0 Q pc ls ((0, x) :: st) v sz := fun H locs lr sr hI hL hl hs => by
  obtain ⟨_, _, rfl, ⟨X, rfl, rfl⟩, hs⟩ := hs
  exact lv_i2l C.1 C.2.1 hd rfl (kk H locs lr _ hI hL hl ⟨_, _, rfl, ⟨_, rfl, Int32.toInt_toInt64 X⟩, hs⟩)
theorem g_l2i (C : MC_ E p s m c cc nL own) (hd : decode cc pc = .ok (.l2i, 1)) (kk : G_ E p l e R s m args below meth c nL sz0 Q (pc + 1) ls ((0, wr_ x) :: st) v sz) : G_ E p l e R s m args below meth c nL sz0 Q pc ls ((1, x) :: st) v sz := fun H locs lr sr hI hL hl hs => by
  obtain ⟨_, _, rfl, ⟨X, rfl, rfl⟩, hs⟩ := hs
  exact lv_l2i C.1 C.2.1 hd rfl (kk H locs lr _ hI hL hl ⟨_, _, rfl, ⟨_, rfl, by rw [Int64.toInt_toInt32, bm32]⟩, hs⟩)
theorem g_i2b (C : MC_ E p s m c cc nL own) (hd : decode cc pc = .ok (.i2b, 1)) (kk : G_ E p l e R s m args below meth c nL sz0 Q (pc + 1) ls ((0, w8_ x) :: st) v sz) : G_ E p l e R s m args below meth c nL sz0 Q pc ls ((0, x) :: st) v sz := fun H locs lr sr hI hL hl hs => by
  obtain ⟨_, _, rfl, ⟨X, rfl, rfl⟩, hs⟩ := hs
  exact lv_i2b C.1 C.2.1 hd rfl (kk H locs lr _ hI hL hl ⟨_, _, rfl, ⟨_, rfl, by rw [Int8.toInt_toInt32, Int32.toInt_toInt8, bm8]⟩, hs⟩)
theorem g_lcmp (C : MC_ E p s m c cc nL own) (hd : decode cc pc = .ok (.lcmp, 1)) (kk : G_ E p l e R s m args below meth c nL sz0 Q (pc + 1) ls ((0, lc_ x y) :: st) v sz) : G_ E p l e R s m args below meth c nL sz0 Q pc ls ((1, y) :: (1, x) :: st) v sz := fun H locs lr sr hI hL hl hs => by
  obtain ⟨_, _, rfl, ⟨Y, rfl, rfl⟩, _, _, rfl, ⟨X, rfl, rfl⟩, hs⟩ := hs
  refine W.lcmp C.1 C.2.1 hd (kk H locs lr _ hI hL hl ⟨_, _, rfl, ⟨_, rfl, ?_⟩, hs⟩)
  unfold lg_cmp lc_
  simp only [GT.gt, Int64.lt_iff_toInt_lt, ← Int64.toInt_inj]
  split
  · rfl
  · split <;> rfl
theorem g_dup (C : MC_ E p s m c cc nL own) {a : AV_} (ha : a.1 ≠ 1) (hd : decode cc pc = .ok (.dup, 1)) (kk : G_ E p l e R s m args below meth c nL sz0 Q (pc + 1) ls (a :: a :: st) v sz) : G_ E p l e R s m args below meth c nL sz0 Q pc ls (a :: st) v sz := fun H locs lr sr hI hL hl hs => by
  obtain ⟨z, _, rfl, h1, hs⟩ := hs
  exact lv_dup C.1 C.2.1 hd (by rw [vo_cat h1, if_neg ha]) (kk H locs lr _ hI hL hl ⟨_, _, rfl, h1, _, _, rfl, h1, hs⟩)
theorem g_pop (C : MC_ E p s m c cc nL own) {a : AV_} (ha : a.1 ≠ 1) (hd : decode cc pc = .ok (.pop, 1)) (kk : G_ E p l e R s m args below meth c nL sz0 Q (pc + 1) ls st v sz) : G_ E p l e R s m args below meth c nL sz0 Q pc ls (a :: st) v sz := fun H locs lr sr hI hL hl hs => by
  obtain ⟨z, _, rfl, h1, hs⟩ := hs
  exact lv_pop C.1 C.2.1 hd (by rw [vo_cat h1, if_neg ha]) (kk H locs lr _ hI hL hl hs)
theorem g_dup2 (C : MC_ E p s m c cc nL own) {a b : AV_} (ha : a.1 ≠ 1) (hb : b.1 ≠ 1) (hd : decode cc pc = .ok (.dup2, 1)) (kk : G_ E p l e R s m args below meth c nL sz0 Q (pc + 1) ls (a :: b :: a :: b :: st) v sz) : G_ E p l e R s m args below meth c nL sz0 Q pc ls (a :: b :: st) v sz := fun H locs lr sr hI hL hl hs => by
  obtain ⟨z, _, rfl, h1, z2, _, rfl, h2, hs⟩ := hs
  exact lv_dup2_11 C.1 C.2.1 hd (by rw [vo_cat h1, if_neg ha]) (by rw [vo_cat h2, if_neg hb]) (kk H locs lr _ hI hL hl ⟨_, _, rfl, h1, _, _, rfl, h2, _, _, rfl, h1, _, _, rfl, h2, hs⟩)
theorem g_goto (C : MC_ E p s m c cc nL own) {off : Int} (tgt : Nat) (hd : decode cc pc = .ok (.goto off, 3)) (ht : (pc : Int) + off = (tgt : Int)) (kk : G_ E p l e R s m args below meth c nL sz0 Q tgt ls st v sz) : G_ E p l e R s m args below meth c nL sz0 Q pc ls st v sz := fun H locs lr sr hI hL hl hs => lv_goto C.1 C.2.1 hd ht (kk H locs lr _ hI hL hl hs)
theorem g_if_eq (C : MC_ E p s m c cc nL own) {off : Int} (tgt : Nat) (hd : decode cc pc = .ok (.ifCond .eq off, 3)) (ht : (pc : Int) + off = (tgt : Int)) (kt : x = 0 → G_ E p l e R s m args below meth c nL sz0 Q tgt ls st v sz) (kf : ¬ x = 0 → G_ E p l e R s m args below meth c nL sz0 Q (pc + 3) ls st v sz) : G_ E p l e R s m args below meth c nL sz0 Q pc ls ((0, x) :: st) v sz := fun H locs lr sr hI hL hl hs => by
  obtain ⟨_, _, rfl, ⟨X, rfl, rfl⟩, hs⟩ := hs
  exact lv_if_eq C.1 C.2.1 hd ht (fun h => kt (by rw [h]; rfl) H locs lr _ hI hL hl hs) (fun h => kf (fun q => h (Int32.toInt_inj.mp q)) H locs lr _ hI hL hl hs)
theorem g_if_ne (C : MC_ E p s m c cc nL own) {off : Int} (tgt : Nat) (hd : decode cc pc = .ok (.ifCond .ne off, 3)) (ht : (pc : Int) + off = (tgt : Int)) (kt : ¬ x = 0 → G_ E p l e R s m args below meth c nL sz0 Q tgt ls st v sz) (kf : x = 0 → G_ E p l e R s m args below meth c nL sz0 Q (pc + 3) ls st v sz) : G_ E p l e R s m args below meth c nL sz0 Q pc ls ((0, x) :: st) v sz := fun H locs lr sr hI hL hl hs => by
  obtain ⟨_, _, rfl, ⟨X, rfl, rfl⟩, hs⟩ := hs
  exact lv_if_ne C.1 C.2.1 hd ht (fun h => kt (fun q => h (Int32.toInt_inj.mp q)) H locs lr _ hI hL hl hs) (fun h => kf (by first | (rw [h]; rfl) | (rw [Classical.not_not.mp h]; rfl)) H locs lr _ hI hL hl hs)
theorem z32 : (0 : Int32).toInt = 0 := rfl
theorem g_if_lt (C : MC_ E p s m c cc nL own) {off : Int} (tgt : Nat) (hd : decode cc pc = .ok (.ifCond .lt off, 3)) (ht : (pc : Int) + off = (tgt : Int)) (kt : x < 0 → G_ E p l e R s m args below meth c nL sz0 Q tgt ls st v sz) (kf : ¬ x < 0 → G_ E p l e R s m args below meth c nL sz0 Q (pc + 3) ls st v sz) : G_ E p l e R s m args below meth c nL sz0 Q pc ls ((0, x) :: st) v sz := fun H locs lr sr hI hL hl hs => by
  obtain ⟨_, _, rfl, ⟨X, rfl, rfl⟩, hs⟩ := hs
  refine lv_if_lt C.1 C.2.1 hd ht (fun h => kt ?_ H locs lr _ hI hL hl hs) (fun h => kf ?_ H locs lr _ hI hL hl hs) <;> simp only [Int32.lt_iff_toInt_lt, Int32.le_iff_toInt_le, z32] at h <;> omega
theorem g_if_ge (C : MC_ E p s m c cc nL own) {off : Int} (tgt : Nat) (hd : decode cc pc = .ok (.ifCond .ge off, 3)) (ht : (pc : Int) + off = (tgt : Int)) (kt : 0 ≤ x → G_ E p l e R s m args below meth c nL sz0 Q tgt ls st v sz) (kf : ¬ 0 ≤ x → G_ E p l e R s m args below meth c nL sz0 Q (pc + 3) ls st v sz) : G_ E p l e R s m args below meth c nL sz0 Q pc ls ((0, x) :: st) v sz := fun H locs lr sr hI hL hl hs => by
  obtain ⟨_, _, rfl, ⟨X, rfl, rfl⟩, hs⟩ := hs
  refine lv_if_ge C.1 C.2.1 hd ht (fun h => kt ?_ H locs lr _ hI hL hl hs) (fun h => kf ?_ H locs lr _ hI hL hl hs) <;> simp only [Int32.lt_iff_toInt_lt, Int32.le_iff_toInt_le, z32] at h <;> omega
theorem g_if_gt (C : MC_ E p s m c cc nL own) {off : Int} (tgt : Nat) (hd : decode cc pc = .ok (.ifCond .gt off, 3)) (ht : (pc : Int) + off = (tgt : Int)) (kt : 0 < x → G_ E p l e R s m args below meth c nL sz0 Q tgt ls st v sz) (kf : ¬ 0 < x → G_ E p l e R s m args below meth c nL sz0 Q (pc + 3) ls st v sz) : G_ E p l e R s m args below meth c nL sz0 Q pc ls ((0, x) :: st) v sz := fun H locs lr sr hI hL hl hs => by
  obtain ⟨_, _, rfl, ⟨X, rfl, rfl⟩, hs⟩ := hs
  refine lv_if_gt C.1 C.2.1 hd ht (fun h => kt ?_ H locs lr _ hI hL hl hs) (fun h => kf ?_ H locs lr _ hI hL hl hs) <;> simp only [GT.gt, Int32.lt_iff_toInt_lt, Int32.le_iff_toInt_le, z32] at h <;> omega
theorem g_if_le (C : MC_ E p s m c cc nL own) {off : Int} (tgt : Nat) (hd : decode cc pc = .ok (.ifCond .le off, 3)) (ht : (pc : Int) + off = (tgt : Int)) (kt : x ≤ 0 → G_ E p l e R s m args below meth c nL sz0 Q tgt ls st v sz) (kf : ¬ x ≤ 0 → G_ E p l e R s m args below meth c nL sz0 Q (pc + 3) ls st v sz) : G_ E p l e R s m args below meth c nL sz0 Q pc ls ((0, x) :: st) v sz := fun H locs lr sr hI hL hl hs => by
  obtain ⟨_, _, rfl, ⟨X, rfl, rfl⟩, hs⟩ := hs
  refine lv_if_le C.1 C.2.1 hd ht (fun h => kt ?_ H locs lr _ hI hL hl hs) (fun h => kf ?_ H locs lr _ hI hL hl hs) <;> simp only [GE.ge, Int32.lt_iff_toInt_lt, Int32.le_iff_toInt_le, z32] at h <;> omega
theorem g_icmp_eq (C : MC_ E p s m c cc nL own) {off : Int} (tgt : Nat) (hd : decode cc pc = .ok (.if_icmp .eq off, 3)) (ht : (pc : Int) + off = (tgt : Int)) (kt : x = y → G_ E p l e R s m args below meth c nL sz0 Q tgt ls st v sz) (kf : ¬ x = y → G_ E p l e R s m args below meth c nL sz0 Q (pc + 3) ls st v sz) : G_ E p l e R s m args below meth c nL sz0 Q pc ls ((0, y) :: (0, x) :: st) v sz := fun H locs lr sr hI hL hl hs => by
  obtain ⟨_, _, rfl, ⟨Y, rfl, rfl⟩, _, _, rfl, ⟨X, rfl, rfl⟩, hs⟩ := hs
  exact lv_icmp_eq C.1 C.2.1 hd ht (fun h => kt (by rw [h]) H locs lr _ hI hL hl hs) (fun h => kf (fun q => h (Int32.toInt_inj.mp q)) H locs lr _ hI hL hl hs)
theorem g_icmp_ne (C : MC_ E p s m c cc nL own) {off : Int} (tgt : Nat) (hd : decode cc pc = .ok (.if_icmp .ne off, 3)) (ht : (pc : Int) + off = (tgt : Int)) (kt : ¬ x = y → G_ E p l e R s m args below meth c nL sz0 Q tgt ls st v sz) (kf : x = y → G_ E p l e R s m args below meth c nL sz0 Q (pc + 3) ls st v sz) : G_ E p l e R s m args below meth c nL sz0 Q pc ls ((0, y) :: (0, x) :: st) v sz := fun H locs lr sr hI hL hl hs => by
  obtain ⟨_, _, rfl, ⟨Y, rfl, rfl⟩, _, _, rfl, ⟨X, rfl, rfl⟩, hs⟩ := hs
  exact lv_icmp_ne C.1 C.2.1 hd ht (fun h => kt (fun q => h (Int32.toInt_inj.mp q)) H locs lr _ hI hL hl hs) (fun h => kf (by first | (rw [h]; done) | (rw [Classical.not_not.mp h]; done)) H locs lr _ hI hL hl hs)
theorem g_icmp_lt (C : MC_ E p s m c cc nL own) {off : Int} (tgt : Nat) (hd : decode cc pc = .ok (.if_icmp .lt off, 3)) (ht : (pc : Int) + off = (tgt : Int)) (kt : x < y → G_ E p l e R s m args below meth c nL sz0 Q tgt ls st v sz) (kf : ¬ x < y → G_ E p l e R s m args below meth c nL sz0 Q (pc + 3) ls st v sz) : G_ E p l e R s m args below meth c nL sz0 Q pc ls ((0, y) :: (0, x) :: st) v sz := fun H locs lr sr hI hL hl hs => by
  obtain ⟨_, _, rfl, ⟨Y, rfl, rfl⟩, _, _, rfl, ⟨X, rfl, rfl⟩, hs⟩ := hs
  refine lv_icmp_lt C.1 C.2.1 hd ht (fun h => kt ?_ H locs lr _ hI hL hl hs) (fun h => kf ?_ H locs lr _ hI hL hl hs) <;> simp only [GT.gt, GE.ge, Int32.lt_iff_toInt_lt, Int32.le_iff_toInt_le] at h <;> omega
theorem g_icmp_ge (C : MC_ E p s m c cc nL own) {off : Int} (tgt : Nat) (hd : decode cc pc = .ok (.if_icmp .ge off, 3)) (ht : (pc : Int) + off = (tgt : Int)) (kt : y ≤ x → G_ E p l e R s m args below meth c nL sz0 Q tgt ls st v sz) (kf : ¬ y ≤ x → G_ E p l e R s m args below meth c nL sz0 Q (pc + 3) ls st v sz) : G_ E p l e R s m args below meth c nL sz0 Q pc ls ((0, y) :: (0, x) :: st) v sz := fun H locs lr sr hI hL hl hs => by
  obtain ⟨_, _, rfl, ⟨Y, rfl, rfl⟩, _, _, rfl, ⟨X, rfl, rfl⟩, hs⟩ := hs
  refine lv_icmp_ge C.1 C.2.1 hd ht (fun h => kt ?_ H locs lr _ hI hL hl hs) (fun h => kf ?_ H locs lr _ hI hL hl hs) <;> simp only [GT.gt, GE.ge, Int32.lt_iff_toInt_lt, Int32.le_iff_toInt_le] at h <;> omega
theorem g_icmp_gt (C : MC_ E p s m c cc nL own) {off : Int} (tgt : Nat) (hd : decode cc pc = .ok (.if_icmp .gt off, 3)) (ht : (pc : Int) + off = (tgt : Int)) (kt : y < x → G_ E p l e R s m args below meth c nL sz0 Q tgt ls st v sz) (kf : ¬ y < x → G_ E p l e R s m args below meth c nL sz0 Q (pc + 3) ls st v sz) : G_ E p l e R s m args below meth c nL sz0 Q pc ls ((0, y) :: (0, x) :: st) v sz := fun H locs lr sr hI hL hl hs => by
  obtain ⟨_, _, rfl, ⟨Y, rfl, rfl⟩, _, _, rfl, ⟨X, rfl, rfl⟩, hs⟩ := hs
  refine lv_icmp_gt C.1 C.2.1 hd ht (fun h => kt ?_ H locs lr _ hI hL hl hs) (fun h => kf ?_ H locs lr _ hI hL hl hs) <;> simp only [GT.gt, GE.ge, Int32.lt_iff_toInt_lt, Int32.le_iff_toInt_le] at h <;> omega
theorem g_icmp_le (C : MC_ E p s m c cc nL own) {off : Int} (tgt : Nat) (hd : decode cc pc = .ok (.if_icmp .le off, 3)) (ht : (pc : Int) + off = (tgt : Int)) (kt : x ≤ y → G_ E p l e R s m args below meth c nL sz0 Q tgt ls st v sz) (kf : ¬ x ≤ y → G_ E p l e R s m args below meth c nL sz0 Q (pc + 3) ls st v sz) : G_ E p l e R s m args below meth c nL sz0 Q pc ls ((0, y) :: (0, x) :: st) v sz := fun H locs lr sr hI hL hl hs => by
  obtain ⟨_, _, rfl, ⟨Y, rfl, rfl⟩, _, _, rfl, ⟨X, rfl, rfl⟩, hs⟩ := hs
  refine lv_icmp_le C.1 C.2.1 hd ht (fun h => kt ?_ H locs lr _ hI hL hl hs) (fun h => kf ?_ H locs lr _ hI hL hl hs) <;> simp only [GT.gt, GE.ge, Int32.lt_iff_toInt_lt, Int32.le_iff_toInt_le] at h <;> omega
theorem g_ifnull (C : MC_ E p s m c cc nL own) {off : Int} (tgt : Nat) (hd : decode cc pc = .ok (.ifnull off, 3)) (ht : (pc : Int) + off = (tgt : Int)) (kt : x = 0 → G_ E p l e R s m args below meth c nL sz0 Q tgt ls st v sz) (kf : ¬ x = 0 → G_ E p l e R s m args below meth c nL sz0 Q (pc + 3) ls st v sz) : G_ E p l e R s m args below meth c nL sz0 Q pc ls ((2, x) :: st) v sz := fun H locs lr sr hI hL hl hs => by
  obtain ⟨_, _, rfl, h1, hs⟩ := hs
  rcases h1 with ⟨e3, rfl⟩ | ⟨e3, rfl⟩
  · exact lv_ifnullN C.1 C.2.1 hd ht (kt e3 H locs lr _ hI hL hl hs)
  · exact lv_ifnull C.1 C.2.1 hd (kf (fun q => by omega) H locs lr _ hI hL hl hs)
theorem g_ifnonnull (C : MC_ E p s m c cc nL own) {off : Int} (tgt : Nat) (hd : decode cc pc = .ok (.ifnonnull off, 3)) (ht : (pc : Int) + off = (tgt : Int)) (kt : ¬ x = 0 → G_ E p l e R s m args below meth c nL sz0 Q tgt ls st v sz) (kf : x = 0 → G_ E p l e R s m args below meth c nL sz0 Q (pc + 3) ls st v sz) : G_ E p l e R s m args below meth c nL sz0 Q pc ls ((2, x) :: st) v sz := fun H locs lr sr hI hL hl hs => by
  obtain ⟨_, _, rfl, h1, hs⟩ := hs
  rcases h1 with ⟨e3, rfl⟩ | ⟨e3, rfl⟩
  · exact lv_ifnonnullN C.1 C.2.1 hd (kf e3 H locs lr _ hI hL hl hs)
  · exact lv_ifnonnull C.1 C.2.1 hd ht (kt (fun q => by omega) H locs lr _ hI hL hl hs)
theorem g_tin (C : MC_ E p s m c cc nL own) {dflt lo hi : Int} {offs : Array Int} {len : Nat} {off : Int} (tgt : Nat) (hd : decode cc pc = .ok (.tableswitch dflt lo hi offs, len)) (a : Int) (hx : x = a) (h1 : ¬ a < lo) (h2 : ¬ hi < a) (ho : offs[(a - lo).toNat]? = some off) (ht : (pc : Int) + off = (tgt : Int)) (kk : G_ E p l e R s m args below meth c nL sz0 Q tgt ls st v sz) : G_ E p l e R s m args below meth c nL sz0 Q pc ls ((0, x) :: st) v sz := fun H locs lr sr hI hL hl hs => by
  subst hx
  obtain ⟨_, _, rfl, ⟨X, rfl, rfl⟩, hs⟩ := hs
  exact lv_tableIn C.1 C.2.1 hd h1 h2 ho ht (kk H locs lr _ hI hL hl hs)
theorem g_tout (C : MC_ E p s m c cc nL own) {dflt lo hi : Int} {offs : Array Int} {len : Nat} (tgt : Nat) (hd : decode cc pc = .ok (.tableswitch dflt lo hi offs, len)) (hx : x < lo ∨ hi < x) (ht : (pc : Int) + dflt = (tgt : Int)) (kk : G_ E p l e R s m args below meth c nL sz0 Q tgt ls st v sz) : G_ E p l e R s m args below meth c nL sz0 Q pc ls ((0, x) :: st) v sz := fun H locs lr sr hI hL hl hs => by
  obtain ⟨_, _, rfl, ⟨X, rfl, rfl⟩, hs⟩ := hs
  exact lv_tableOut C.1 C.2.1 hd hx ht (kk H locs lr _ hI hL hl hs)
end GR
