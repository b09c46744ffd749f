def mz_ (v : V_) (a : Int) (N : Nat) : V_ := fun b j => if b = a then (if 0 ≤ j ∧ j < (N : Int) then a + 1 + j else 0) else if a < b ∧ b ≤ a + (N : Int) then 0 else v b j
theorem mz_old {v : V_} {a : Int} {N : Nat} {b : Int} (j : Int) (h : b < a ∨ a + (N : Int) < b) : mz_ v a N b j = v b j := by
  unfold mz_
  rw [if_neg (by omega), if_neg (by omega)]
theorem mz_row {v : V_} {a : Int} {N : Nat} {b : Int} (j : Int) (h : a < b ∧ b ≤ a + (N : Int)) : mz_ v a N b j = 0 := by
  unfold mz_
  rw [if_neg (by omega), if_pos h]
theorem mz_out {v : V_} {a : Int} {N : Nat} {j : Int} (h : 0 ≤ j ∧ j < (N : Int)) : mz_ v a N a j = a + 1 + j := by
  unfold mz_
  rw [if_pos rfl, if_pos h]
section GMN
variable {E : En_} {p : Program} {l : Launch} {e : Env} {R : Room} {s : State} {m : MethodId} {args : Array Value} {below : List Frame} {meth : Method} {c : Code} {nL : Nat} {sz0 sz : Int} {Q : State → Prop} {cc : ByteArray} {own : String} {pc : Nat} {ls : List (Nat × AV_)} {st : List AV_} {v : V_} {x y : Int}
theorem w_mna {H : Heap} {locs : List Loc} {cells slots : Nat} (hexec : p.tables.exec = Jvm.exec) (hb : c.code = cc) {index : Nat} (hown : s.vm.findClass own = some m.cls) (hclink : (Cond.classLink own index ("[" ++ (FieldType.array .int).toString)).before args s = true) (kA : KAA_ s) (harr : (Cond.arrayClass .int).before args s = true) {n k : Int32} {N M : Nat} (hN : n.toNatClampNeg = N) (hM : k.toNatClampNeg = M) {rest : List Value} {lr : Array Slot}
    (hn : ¬ n < 0) (hk : ¬ k < 0) (hb1 : N ≤ 1000) (hb2 : M ≤ 1000) (hcells : cells + (1 + N) ≤ R.cells) (hslots : slots + (N + N * M) ≤ R.slots) (hdg : decode cc pc = .ok (.multianewarray index 2, 4))
    (kk : ∀ (H1 : Heap) (cA comp : ClassId), s.vm.findClass ("[" ++ (FieldType.array .int).toString) = some cA → s.vm.findClass (FieldType.array .int).toString = some comp → H1.size = H.size + 1 + N → H1[H.size]? = some (mo_ cA N H.size N) → (∀ a : Nat, a < H.size → H1[a]? = H[a]?) → (∀ j : Nat, j < N → H1[H.size + 1 + j]? = some (arrV comp M (fun _ => .int 0))) → W p l e R s m args below meth c H1 (locs ++ (List.range N).map fun j => ⟨H.size, j⟩) (cells + 1 + N) (slots + N + N * M) Q (F0 m (pc + 4) lr (.ref H.size :: rest))) : W p l e R s m args below meth c H locs cells slots Q (F0 m pc lr (.int k :: .int n :: rest)) := by
  subst hb
  intro T hT X
  subst hT
  have hpl : e.platform.magicAccessors = ({} : Platform).magicAccessors := by rw [X.admits.platform]
  obtain ⟨comp, cA, kA, hcomp, hkA, hkindA, hnameA⟩ := kA
  obtain ⟨comp', kC, cc, hcomp', hkC, hkindC⟩ := Cond.arrayClass_spec harr
  have ecomp : comp' = comp := Option.some.inj (hcomp'.symm.trans hcomp)
  subst ecomp
  obtain ⟨c0, hfc0, hcl⟩ := Cond.classLink_spec hown hclink e.platform hpl
  have ec0 : c0 = cA := Option.some.inj (hfc0.symm.trans hnameA)
  subst ec0
  obtain ⟨hg₁, hwarm₁, hready₁⟩ := State.classEntry (e := e) X.warmed hcl
  generalize T.vm.noted m.cls index (.cls c0) = vm₁ at hg₁ hwarm₁ hready₁
  have hal : s.vm.Alike vm₁ := hwarm₁.alike
  obtain ⟨kA₁, hkA₁, heA⟩ := hal.2.2 _ _ hkA
  obtain ⟨kC₁, hkC₁, heC⟩ := hal.2.2 _ _ hkC
  have X₁ := X.noted hwarm₁
  obtain ⟨hr1, hr2⟩ := X.roomAbove hcells hslots
  have XF := mf_stand X₁ c0 comp' N M N
  obtain ⟨f1, f2, f3, f4, f5, f6⟩ := mf_facts (T.setVm vm₁) c0 comp' N M N
  obtain ⟨t, a1, b1⟩ := kk _ c0 comp' hnameA hcomp f1 f2 f5 f6 _ rfl XF
  refine ⟨t, ?_, b1⟩
  have hl1 : ¬ N > e.platform.arrayLengthLimit := by rw [Launch.admits_arrayLengthLimit X.admits]; omega
  have hh1 : ¬ N * componentBytes (.array .int) > e.platform.maxHeapBytes := by
    rw [Launch.admits_maxHeapBytes X.admits]; show ¬ N * 4 > 536870912; omega
  have hl2 : ¬ M > e.platform.arrayLengthLimit := by rw [Launch.admits_arrayLengthLimit X.admits]; omega
  have hh2 : ¬ M * componentBytes .int > e.platform.maxHeapBytes := by
    rw [Launch.admits_maxHeapBytes X.admits]; show ¬ M * 4 > 536870912; omega
  jvm_step X.here [X.here.top, hexec, hdg]
  simp only [Op.multianewarray.sem, wp_bind', W.resolveClassAt_links (State.method?_setTop (F0 m pc lr (.int k :: .int n :: rest)) X.here.top) hg₁]
  rw [W.popN, if_neg (by decide)]
  refine ⟨F0 m pc lr (.int k :: .int n :: rest), State.topJava?_setTop' (s := T.setVm vm₁) _ X.here.top, [.int n, .int k], rest, rfl, rfl, ?_⟩
  simp only [List.mapM_cons, List.mapM_nil, wp_bind', wp_pure']
  refine wp_mk2 hN hM (k := kA₁) (kc := kC₁) (comp := comp') (cc := cc) hkA₁ (by rw [heA]; exact hkindA) hkC₁ (by rw [heC]; exact hkindC) hn hk hl1 hh1 hl2 hh2 (by show T.heap.size + 1 + _ ≤ _; omega) (by show T.slotsUsed + _ + _ ≤ _; omega) (fun d' acts' => ?_)
  have eS : ((T.setTop (F0 m pc lr (.int k :: .int n :: rest))).setVm vm₁).setTop (F0 m pc lr rest) = (T.setVm vm₁).setTop (F0 m pc lr rest) := by
    show ((T.setVm vm₁).setTop _).setTop _ = _
    rw [State.setTop_setTop]
  rw [eS, mf_top]
  simp only [wp_bind', W.mark, W.pushRef, State.topJava?_setTop' _ XF.here.top, Option.some.injEq, exists_eq_left', State.setTop_setTop, State.heap_setTop]
  intro acts
  simp [jvm, XF.here.top]
  exact a1
end GMN
