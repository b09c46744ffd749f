/-! shorter call rows where nothing is made; Arrays.fill -/
theorem z0_ (sz : Int) : (sz - sz).toNat = 0 := by omega
theorem rg_ {D : Int → Prop} {sz h : Int} (hC : Cl_ D sz) (hD : D h) : 0 < h ∧ h < sz := ⟨(hC h hD).1, (hC h hD).2.1⟩
theorem pgF_ {D : Int → Prop} {h : Int} (hG : Pg_ D) (hp : h = PA_ ∨ h = PB_) : D h ∧ ty_ h = 5 ∧ ln_ h = 0 := by
  rcases hp with rfl | rfl
  · exact ⟨hG.1, by decide +kernel, by decide +kernel⟩
  · exact ⟨hG.2, by decide +kernel, by decide +kernel⟩
def cv_ok (yy : MethodName) (Cn : String) (bytes : ByteArray) (maxL : Nat) (ret : Option FieldType) (n : Nat) : Prop := Cond.instanceMethod yy ∈ tb_ ∧ Cond.selects Cn yy yy ∈ tb_ ∧ Cond.initialized Cn ∈ tb_ ∧ Cond.code yy bytes maxL ret ∈ tb_ ∧ (yy.cls = Cn ∧ yy.cls ≠ "java/lang/invoke/MethodHandle" ∧ yy.cls ≠ "java/lang/invoke/VarHandle" ∧ (parseMethodDescriptor yy.desc).map (fun d => d.parameters.length) = some n)
def cs_ok (yy : MethodName) (bytes : ByteArray) (maxL : Nat) (ret : Option FieldType) (n : Nat) : Prop := Cond.static yy ∈ tb_ ∧ Cond.initialized yy.cls ∈ tb_ ∧ Cond.code yy bytes maxL ret ∈ tb_ ∧ (yy.cls ≠ "java/lang/invoke/MethodHandle" ∧ yy.cls ≠ "java/lang/invoke/VarHandle" ∧ (parseMethodDescriptor yy.desc).map (fun d => d.parameters.length) = some n)
def rm_ (f lo : Nat) : Room := { frames := f, cells := 0, slots := 0, locals := lo }
theorem met_G0 {l : Launch} {y : MethodName} {cc : ByteArray} {maxL : Nat} {ret : Option FieldType} {rm : Room} {E : En_} {sz : Int} {v v' : V_} {as : List AV_} {rk : Nat} {r : Int} (own : String) (hy : plainName y.cls = true) (ho : y.cls = own) (hls : ls_ as ≤ maxL)
    (body : ∀ p e s m args below meth c, MC_ E p s m c cc maxL own → meth.sig.returnType = ret → meth.locks = false → G_ E p l e rm s m args below meth c maxL sz (Q_ E below args s sz sz rk r v') 0 (la_ 0 as) [] v sz) : Met l y [.code y cc maxL ret] rm (Pc_ E sz v as) (Qc_ E sz rk r v') 0 0 (fun q => E.1 < q) := by
  have h := met_G (l := l) (rm := rm) (sz0 := sz) (sz' := sz) (v := v) (v' := v') (as := as) (rk := rk) (r := r) hy ho hls (fun p e s m args below meth c h1 h2 h3 _ => body p e s m args below meth c h1 h2 h3)
  rw [z0_] at h
  exact h
section GS
variable {E : En_} {p : Program} {l : Launch} {e : Env} {R : Room} {s : State} {m : MethodId} {args : Array Value} {below : List Frame} {meth : Method} {c : Code} {nL : Nat} {sz : Int} {Q : State → Prop} {cc : ByteArray} {own : String} {pc : Nat} {ls ls' : List (Nat × AV_)} {st : List AV_} {v : V_} {x y h i : Int}
theorem g_set (C : MC_ E p s m c cc nL own) {k : Nat} {sz0 x' : Int} (hx : x' = x) (kk : G_ E p l e R s m args below meth c nL sz0 Q pc ls ((k, x') :: st) v sz) : G_ E p l e R s m args below meth c nL sz0 Q pc ls ((k, x) :: st) v sz := by
  subst hx; exact kk
theorem g_setv (C : MC_ E p s m c cc nL own) {sz0 : Int} {v' : V_} (hx : v' = v) (kk : G_ E p l e R s m args below meth c nL sz0 Q pc ls st v' sz) : G_ E p l e R s m args below meth c nL sz0 Q pc ls st v sz := by
  subst hx; exact kk
theorem g_cV (C : MC_ E p s m c cc nL own) {ci N maxL index n rk : Nat} {Cn : String} {T : u_T} {ty : Nat → FieldType} {yy : MethodName} {bytes : ByteArray} {ret : Option FieldType} {rm : Room} {r : Int} {v' : V_} (as : List AV_) (hM : Met l yy [.code yy bytes maxL ret] rm (Pc_ E sz v ((2, h) :: as)) (Qc_ E sz rk r v') 0 0 (fun q => E.1 < q)) (hc : cl_ok ci Cn T N ty) (ht : ty_ h = ci) (hr : 0 < h ∧ h < sz) (w1 : Cond.methodLink own index yy ∈ tb_) (ok : cv_ok yy Cn bytes maxL ret n) (hn : as.length = n)
    (hR : rm.frames + 1 ≤ R.frames ∧ 8 + (maxL + 11) + rm.locals ≤ R.locals) (hrc : rm.cells = 0) (hrs : rm.slots = 0) (hcat : cat_ st ≤ 8) (hd : decode cc pc = .ok (.invokevirtual index, 3)) (kk : G_ E p l e R s m args below meth c nL sz Q (pc + 3) ls (rs_ rk r st) v' sz) : G_ E p l e R s m args below meth c nL sz Q pc ls (as.reverse ++ (2, h) :: st) v sz := by
  obtain ⟨w2, w3, w4, w5, hd0⟩ := ok
  have e := z0_ sz
  exact g_callV C as (by rw [e]; exact hM) hc ht hr w1 w2 w3 w4 w5 hd0 hn hR (by rw [hrc, e]) (by rw [hrs, e]) (by rw [e]; exact ⟨Nat.zero_le _, Nat.zero_le _⟩) ⟨Int.le_refl _, Int.le_refl _⟩ hcat hd kk
theorem g_cS (C : MC_ E p s m c cc nL own) {maxL index n rk : Nat} {yy : MethodName} {bytes : ByteArray} {ret : Option FieldType} {rm : Room} {r : Int} {v' : V_} (as : List AV_) (hM : Met l yy [.code yy bytes maxL ret] rm (Pc_ E sz v as) (Qc_ E sz rk r v') 0 0 (fun q => E.1 < q)) (w1 : Cond.methodLink own index yy ∈ tb_) (ok : cs_ok yy bytes maxL ret n) (hn : as.length = n)
    (hR : rm.frames + 1 ≤ R.frames ∧ 8 + (maxL + 11) + rm.locals ≤ R.locals) (hrc : rm.cells = 0) (hrs : rm.slots = 0) (hcat : cat_ st ≤ 8) (hd : decode cc pc = .ok (.invokestatic index, 3)) (kk : G_ E p l e R s m args below meth c nL sz Q (pc + 3) ls (rs_ rk r st) v' sz) : G_ E p l e R s m args below meth c nL sz Q pc ls (as.reverse ++ st) v sz := by
  obtain ⟨w2, w4, w5, hd0⟩ := ok
  have e := z0_ sz
  exact g_callS C as (by rw [e]; exact hM) w1 w2 w4 w5 hd0 hn hR (by rw [hrc, e]) (by rw [hrs, e]) (by rw [e]; exact ⟨Nat.zero_le _, Nat.zero_le _⟩) ⟨Int.le_refl _, Int.le_refl _⟩ hcat hd kk
theorem g_cSN (C : MC_ E p s m c cc nL own) {host : String} {maxL index n rk : Nat} {yy : MethodName} {bytes : ByteArray} {ret : Option FieldType} {rm : Room} {r : Int} {v' : V_} (as : List AV_) (hM : Met l yy [.code yy bytes maxL ret] rm (Pc_ E sz v as) (Qc_ E sz rk r v') 0 0 (fun q => E.1 < q)) (w1 : Cond.methodLinkNest own index yy host ∈ tb_) (ok : cs_ok yy bytes maxL ret n) (hn : as.length = n)
    (hR : rm.frames + 1 ≤ R.frames ∧ 8 + (maxL + 11) + rm.locals ≤ R.locals) (hrc : rm.cells = 0) (hrs : rm.slots = 0) (hcat : cat_ st ≤ 8) (hd : decode cc pc = .ok (.invokestatic index, 3)) (kk : G_ E p l e R s m args below meth c nL sz Q (pc + 3) ls (rs_ rk r st) v' sz) : G_ E p l e R s m args below meth c nL sz Q pc ls (as.reverse ++ st) v sz := by
  obtain ⟨w2, w4, w5, hd0⟩ := ok
  have e := z0_ sz
  exact g_callSN C as (by rw [e]; exact hM) w1 w2 w4 w5 hd0 hn hR (by rw [hrc, e]) (by rw [hrs, e]) (by rw [e]; exact ⟨Nat.zero_le _, Nat.zero_le _⟩) ⟨Int.le_refl _, Int.le_refl _⟩ hcat hd kk
theorem g_max0 (C : MC_ E p s m c cc nL own) {index : Nat} (w1 : Cond.methodLink own index Lib.Math.max.name ∈ tb_) (hd : decode cc pc = .ok (.invokestatic index, 3)) (hR : 1 ≤ R.frames ∧ cat_ st + 13 ≤ R.locals) (kk : G_ E p l e R s m args below meth c nL sz Q (pc + 3) ls ((0, mx_ x y) :: st) v sz) : G_ E p l e R s m args below meth c nL sz Q pc ls ((0, y) :: (0, x) :: st) v sz := g_max C w1 hd hR (by rw [z0_]; exact ⟨Nat.zero_le _, Nat.zero_le _⟩) kk
theorem g_min0 (C : MC_ E p s m c cc nL own) {index : Nat} (w1 : Cond.methodLink own index Lib.Math.min.name ∈ tb_) (hd : decode cc pc = .ok (.invokestatic index, 3)) (hR : 1 ≤ R.frames ∧ cat_ st + 13 ≤ R.locals) (kk : G_ E p l e R s m args below meth c nL sz Q (pc + 3) ls ((0, mn_ x y) :: st) v sz) : G_ E p l e R s m args below meth c nL sz Q pc ls ((0, y) :: (0, x) :: st) v sz := g_min C w1 hd hR (by rw [z0_]; exact ⟨Nat.zero_le _, Nat.zero_le _⟩) kk
end GS
abbrev cFillI_ : ByteArray := prog_20_method_103_code
abbrev cFillJ_ : ByteArray := prog_20_method_101_code
theorem wr_id {x : Int} (h : -2147483648 ≤ x ∧ x < 2147483648) : wr_ x = x := by unfold wr_; omega
theorem fl_step {v : V_} {a x : Int} {i : Nat} : up_ (fl_ v a i x) a i x = fl_ v a (i + 1 : Nat) x := by
  funext d j
  unfold up_ fl_
  by_cases h1 : d = a ∧ j = (i : Int)
  · rw [if_pos h1, if_pos ⟨h1.1, by omega, by omega⟩]
  · rw [if_neg h1]
    by_cases h2 : d = a ∧ 0 ≤ j ∧ j < (i : Int)
    · rw [if_pos h2, if_pos ⟨h2.1, by omega, by omega⟩]
    · rw [if_neg h2, if_neg (fun z => by
        by_cases h3 : j = (i : Int)
        · exact h1 ⟨z.1, h3⟩
        · exact h2 ⟨z.1, z.2.1, by omega⟩)]
theorem fl_0 {v : V_} {a x : Int} : fl_ v a (0 : Nat) x = v := by
  funext d j
  unfold fl_
  rw [if_neg (by omega)]
section GF
variable {E : En_} {p : Program} {l : Launch} {e : Env} {s : State} {m : MethodId} {args : Array Value} {below : List Frame} {meth : Method} {c : Code} {sz : Int}
theorem t_fillI (C : MC_ E p s m c cFillI_ 4 "java/util/Arrays") (hr : meth.sig.returnType = none) (hlk : meth.locks = false) {a x : Int} {n : Nat} {v : V_} (ha : 0 < a ∧ a < sz) (ht : ty_ a = 20) (hl : ln_ a = n) (hn : n < 100000) : ∀ k i : Nat, i + k = n → G_ E p l e (rm_ 0 0) s m args below meth c 4 sz (Q_ E below args s sz sz 9 0 (fl_ v a n x)) 5 [(0, (2, a)), (1, (0, x)), (2, (0, (i : Int))), (3, (0, (n : Int)))] [] (fl_ v a i x) sz := by
  intro k
  induction k with
  | zero =>
    intro i hi
    have hi : i = n := hi
    subst hi
    refine g_iload_n C (f := 2) (by decide +kernel : decode cFillI_ 5 = .ok (.iload_n 2, 1)) 2 rfl ?_
    refine g_iload_n C (f := 3) (by decide +kernel : decode cFillI_ 6 = .ok (.iload_n 3, 1)) 3 rfl ?_
    refine g_icmp_ge C 20 (by decide +kernel : decode cFillI_ 7 = .ok (.if_icmp .ge 13, 3)) rfl (fun _ => ?_) (fun h => absurd (Int.le_refl _) h)
    exact g_vret C (by decide +kernel : decode cFillI_ 20 = .ok (.return_, 1)) hr hlk
  | succ k ih =>
    intro i hi
    refine g_iload_n C (f := 2) (by decide +kernel : decode cFillI_ 5 = .ok (.iload_n 2, 1)) 2 rfl ?_
    refine g_iload_n C (f := 3) (by decide +kernel : decode cFillI_ 6 = .ok (.iload_n 3, 1)) 3 rfl ?_
    refine g_icmp_ge C 20 (by decide +kernel : decode cFillI_ 7 = .ok (.if_icmp .ge 13, 3)) rfl (fun h => by omega) (fun h => ?_)
    refine g_aload_n C (f := 0) (by decide +kernel : decode cFillI_ 10 = .ok (.aload_n 0, 1)) 0 rfl ?_
    refine g_iload_n C (f := 2) (by decide +kernel : decode cFillI_ 11 = .ok (.iload_n 2, 1)) 2 rfl ?_
    refine g_iload_n C (f := 1) (by decide +kernel : decode cFillI_ 12 = .ok (.iload_n 1, 1)) 1 rfl ?_
    refine g_iast C n (by decide +kernel : decode cFillI_ 13 = .ok (.iastore, 1)) ha ht hl (by omega) _ fl_step.symm ?_
    refine g_iinc C (i := 2) (n := 1) (ls' := [(2, (0, wr_ ((i : Int) + 1))), (0, (2, a)), (1, (0, x)), (3, (0, (n : Int)))]) (by decide +kernel : decode cFillI_ 14 = .ok (.iinc 2 1, 3)) 2 rfl (by decide) rfl rfl ?_
    refine g_goto C 5 (by decide +kernel : decode cFillI_ 17 = .ok (.goto (-12), 3)) rfl ?_
    refine g_sub [1, 2, 0, 3] rfl rfl ?_
    rw [wr_id (by omega)]
    exact ih (i + 1) (by omega)
theorem c_fillI (l : Launch) {E : En_} {sz a x : Int} {n : Nat} {v : V_} (ha : 0 < a ∧ a < sz) (ht : ty_ a = 20) (hl : ln_ a = n) (hn : n < 100000) : Met l yFillI_ [.code yFillI_ cFillI_ 4 none] (rm_ 0 0) (Pc_ E sz v [(2, a), (0, x)]) (Qc_ E sz 9 0 (fl_ v a n x)) 0 0 (fun q => E.1 < q) := by
  refine met_G0 "java/util/Arrays" (by decide +kernel) rfl (Nat.le_of_ble_eq_true rfl) ?_
  intro p e s m args below meth c C hr hlk
  refine g_iconst C (n := 0) (by decide +kernel : decode cFillI_ 0 = .ok (.iconst 0, 1)) (by decide) ?_
  refine g_istore_n C (f := 2) (ls' := [(2, (0, 0)), (0, (2, a)), (1, (0, x))]) (by decide +kernel : decode cFillI_ 1 = .ok (.istore_n 2, 1)) (by decide) rfl ?_
  refine g_aload_n C (f := 0) (by decide +kernel : decode cFillI_ 2 = .ok (.aload_n 0, 1)) 1 rfl ?_
  refine g_alen C 20 n (by decide +kernel : decode cFillI_ 3 = .ok (.arraylength, 1)) ha ht hl (by decide) (toInt_of rfl (by omega)) ?_
  refine g_istore_n C (f := 3) (ls' := [(3, (0, (n : Int))), (2, (0, 0)), (0, (2, a)), (1, (0, x))]) (by decide +kernel : decode cFillI_ 4 = .ok (.istore_n 3, 1)) (by decide) rfl ?_
  refine g_sub [2, 3, 1, 0] rfl rfl ?_
  have h := t_fillI (l := l) (e := e) (p := p) (s := s) (m := m) (args := args) (below := below) (x := x) (v := v) C hr hlk ha ht hl hn n 0 (by omega)
  rw [fl_0] at h
  exact h
theorem t_fillJ (C : MC_ E p s m c cFillJ_ 5 "java/util/Arrays") (hr : meth.sig.returnType = none) (hlk : meth.locks = false) {a x : Int} {n : Nat} {v : V_} (ha : 0 < a ∧ a < sz) (ht : ty_ a = 22) (hl : ln_ a = n) (hn : n < 100000) : ∀ k i : Nat, i + k = n → G_ E p l e (rm_ 0 0) s m args below meth c 5 sz (Q_ E below args s sz sz 9 0 (fl_ v a n x)) 6 [(0, (2, a)), (1, (1, x)), (3, (0, (i : Int))), (4, (0, (n : Int)))] [] (fl_ v a i x) sz := by
  intro k
  induction k with
  | zero =>
    intro i hi
    have hi : i = n := hi
    subst hi
    refine g_iload_n C (f := 3) (by decide +kernel : decode cFillJ_ 6 = .ok (.iload_n 3, 1)) 2 rfl ?_
    refine g_iload C (i := 4) (by decide +kernel : decode cFillJ_ 7 = .ok (.iload 4, 2)) 3 rfl ?_
    refine g_icmp_ge C 22 (by decide +kernel : decode cFillJ_ 9 = .ok (.if_icmp .ge 13, 3)) rfl (fun _ => ?_) (fun h => absurd (Int.le_refl _) h)
    exact g_vret C (by decide +kernel : decode cFillJ_ 22 = .ok (.return_, 1)) hr hlk
  | succ k ih =>
    intro i hi
    refine g_iload_n C (f := 3) (by decide +kernel : decode cFillJ_ 6 = .ok (.iload_n 3, 1)) 2 rfl ?_
    refine g_iload C (i := 4) (by decide +kernel : decode cFillJ_ 7 = .ok (.iload 4, 2)) 3 rfl ?_
    refine g_icmp_ge C 22 (by decide +kernel : decode cFillJ_ 9 = .ok (.if_icmp .ge 13, 3)) rfl (fun h => by omega) (fun h => ?_)
    refine g_aload_n C (f := 0) (by decide +kernel : decode cFillJ_ 12 = .ok (.aload_n 0, 1)) 0 rfl ?_
    refine g_iload_n C (f := 3) (by decide +kernel : decode cFillJ_ 13 = .ok (.iload_n 3, 1)) 2 rfl ?_
    refine g_lload_n C (f := 1) (by decide +kernel : decode cFillJ_ 14 = .ok (.lload_n 1, 1)) 1 rfl ?_
    refine g_last C n (by decide +kernel : decode cFillJ_ 15 = .ok (.lastore, 1)) ha ht hl (by omega) _ fl_step.symm ?_
    refine g_iinc C (i := 3) (n := 1) (ls' := [(3, (0, wr_ ((i : Int) + 1))), (0, (2, a)), (1, (1, x)), (4, (0, (n : Int)))]) (by decide +kernel : decode cFillJ_ 16 = .ok (.iinc 3 1, 3)) 2 rfl (by decide) rfl rfl ?_
    refine g_goto C 6 (by decide +kernel : decode cFillJ_ 19 = .ok (.goto (-13), 3)) rfl ?_
    refine g_sub [1, 2, 0, 3] rfl rfl ?_
    rw [wr_id (by omega)]
    exact ih (i + 1) (by omega)
theorem c_fillJ (l : Launch) {E : En_} {sz a x : Int} {n : Nat} {v : V_} (ha : 0 < a ∧ a < sz) (ht : ty_ a = 22) (hl : ln_ a = n) (hn : n < 100000) : Met l yFillJ_ [.code yFillJ_ cFillJ_ 5 none] (rm_ 0 0) (Pc_ E sz v [(2, a), (1, x)]) (Qc_ E sz 9 0 (fl_ v a n x)) 0 0 (fun q => E.1 < q) := by
  refine met_G0 "java/util/Arrays" (by decide +kernel) rfl (Nat.le_of_ble_eq_true rfl) ?_
  intro p e s m args below meth c C hr hlk
  refine g_iconst C (n := 0) (by decide +kernel : decode cFillJ_ 0 = .ok (.iconst 0, 1)) (by decide) ?_
  refine g_istore_n C (f := 3) (ls' := [(3, (0, 0)), (0, (2, a)), (1, (1, x))]) (by decide +kernel : decode cFillJ_ 1 = .ok (.istore_n 3, 1)) (by decide) rfl ?_
  refine g_aload_n C (f := 0) (by decide +kernel : decode cFillJ_ 2 = .ok (.aload_n 0, 1)) 1 rfl ?_
  refine g_alen C 22 n (by decide +kernel : decode cFillJ_ 3 = .ok (.arraylength, 1)) ha ht hl (by decide) (toInt_of rfl (by omega)) ?_
  refine g_istore C (i := 4) (ls' := [(4, (0, (n : Int))), (3, (0, 0)), (0, (2, a)), (1, (1, x))]) (by decide +kernel : decode cFillJ_ 4 = .ok (.istore 4, 2)) (by decide) rfl ?_
  refine g_sub [2, 3, 1, 0] rfl rfl ?_
  have h := t_fillJ (l := l) (e := e) (p := p) (s := s) (m := m) (args := args) (below := below) (x := x) (v := v) C hr hlk ha ht hl hn n 0 (by omega)
  rw [fl_0] at h
  exact h
end GF
theorem cs_FillI : cs_ok yFillI_ cFillI_ 4 none 2 := ⟨tb_at 345 (by decide +kernel) (by decide +kernel), tb_at 167 (by decide +kernel) (by decide +kernel), tb_at 346 (by decide +kernel) (by decide +kernel), by decide +kernel, by decide +kernel, by decide +kernel⟩
theorem cs_FillJ : cs_ok yFillJ_ cFillJ_ 5 none 2 := ⟨tb_at 781 (by decide +kernel) (by decide +kernel), tb_at 167 (by decide +kernel) (by decide +kernel), tb_at 782 (by decide +kernel) (by decide +kernel), by decide +kernel, by decide +kernel, by decide +kernel⟩
