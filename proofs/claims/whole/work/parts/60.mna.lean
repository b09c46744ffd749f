/-! new int[N][M] -/
def mo_ (c : ClassId) (N h i : Nat) : Cell := arrV c N (fun j => if j < i then .ref (h + 1 + j) else .null)
def mf_ (s : State) (c d : ClassId) (N M : Nat) : Nat → State
  | 0 => s.pushCell (mo_ c N s.heap.size 0)
  | i + 1 => ((mf_ s c d N M i).pushCell (arrV d M (fun _ => .int 0))).setCell s.heap.size (mo_ c N s.heap.size (i + 1))
theorem mo_step (c : ClassId) (N h i : Nat) : (mo_ c N h i).setSlot i (.ref (h + 1 + i)) = mo_ c N h (i + 1) := by
  unfold mo_
  rw [arrV_store]
  congr 1
  funext j
  unfold updV
  by_cases e : j = i
  · subst e
    rw [if_pos rfl, if_pos (by omega)]
  · rw [if_neg e]
    show (if j < i then Value.ref (h + 1 + j) else Value.null) = _
    by_cases h1 : j < i
    · rw [if_pos h1, if_pos (by omega)]
    · rw [if_neg h1, if_neg (by omega)]
theorem mf_facts (s : State) (c d : ClassId) (N M : Nat) : ∀ i, (mf_ s c d N M i).heap.size = s.heap.size + 1 + i ∧ (mf_ s c d N M i).heap[s.heap.size]? = some (mo_ c N s.heap.size i) ∧ (mf_ s c d N M i).vm = s.vm ∧ (mf_ s c d N M i).slotsUsed = s.slotsUsed + N + i * M ∧ (∀ a : Nat, a < s.heap.size → (mf_ s c d N M i).heap[a]? = s.heap[a]?) ∧ ∀ j : Nat, j < i → (mf_ s c d N M i).heap[s.heap.size + 1 + j]? = some (arrV d M (fun _ => .int 0))
  | 0 => ⟨by simp [mf_], by simp [mf_], rfl, by simp [mf_, mo_, arrV_size], fun a ha => State.heap_pushCell_of_lt _ _ ha, fun j hj => absurd hj (Nat.not_lt_zero j)⟩
  | i + 1 => by
    obtain ⟨h1, h2, h3, h4, h5, h6⟩ := mf_facts s c d N M i
    have hlt : s.heap.size < (mf_ s c d N M i).heap.size := by omega
    have h2' : ((mf_ s c d N M i).pushCell (arrV d M (fun _ => .int 0))).heap[s.heap.size]? = some (mo_ c N s.heap.size i) := by rw [State.heap_pushCell_of_lt (h := hlt)]; exact h2
    have hz : ((mf_ s c d N M i).pushCell (arrV d M (fun _ => .int 0))).heap.size = (mf_ s c d N M i).heap.size + 1 := by simp
    have ho : ∀ a : Nat, a ≠ s.heap.size → (mf_ s c d N M (i + 1)).heap[a]? = ((mf_ s c d N M i).pushCell (arrV d M (fun _ => .int 0))).heap[a]? := fun a ha => by
      show (State.setCell _ _ _).heap[a]? = _
      rw [heapAt_setCell_ne _ (Ne.symm ha)]
    refine ⟨?_, State.heap_setCell_self h2', by simp [mf_, h3], ?_, fun a ha => ?_, fun j hj => ?_⟩
    · show (State.setCell _ _ _).heap.size = _
      rw [size_setCell, hz, h1]; omega
    · simp [mf_, h4, arrV_size, Nat.succ_mul]; omega
    · rw [ho a (by omega), State.heap_pushCell_of_lt _ _ (by omega : a < (mf_ s c d N M i).heap.size)]
      exact h5 a ha
    · rw [ho _ (by omega)]
      by_cases e : j = i
      · subst e
        rw [← h1]
        simp
      · rw [State.heap_pushCell_of_lt _ _ (by omega : s.heap.size + 1 + j < (mf_ s c d N M i).heap.size)]
        exact h6 j (by omega)
theorem mf_top (s : State) (f : JFrame) (c d : ClassId) (N M : Nat) : ∀ i, mf_ (s.setTop f) c d N M i = (mf_ s c d N M i).setTop f
  | 0 => rfl
  | i + 1 => by simp only [mf_, mf_top s f c d N M i, State.heap_setTop, State.pushCell_setTop, State.setCell_setTop]
section MA
variable {p : Program} {l : Launch} {e : Env} {R : Room} {s : State} {m : MethodId} {args : Array Value} {below : List Frame} {meth : Method} {c : Code} {locs : List Loc} {cells slots : Nat}
theorem mf_stand {T : State} (X : Stand p l e R s m args below meth c T locs cells slots) (cA d : ClassId) (N M : Nat) : ∀ i, Stand p l e R s m args below meth c (mf_ T cA d N M i) (locs ++ (List.range i).map fun j => ⟨T.heap.size, j⟩) (cells + 1 + i) (slots + N + i * M)
  | 0 => by
    have h := X.pushed (mo_ cA N T.heap.size 0)
    have e0 : (mo_ cA N T.heap.size 0).slots.size = N := arrV_size _ _ _
    rw [e0] at h
    simpa [mf_] using h
  | i + 1 => by
    have Xi := mf_stand X cA d N M i
    obtain ⟨h1, h2, -⟩ := mf_facts T cA d N M i
    have hlt : T.heap.size < (mf_ T cA d N M i).heap.size := by omega
    have h2' : ((mf_ T cA d N M i).pushCell (arrV d M (fun _ => .int 0))).heap[T.heap.size]? = some (mo_ cA N T.heap.size i) := by rw [State.heap_pushCell_of_lt (h := hlt)]; exact h2
    have h := (Xi.pushed (arrV d M (fun _ => .int 0))).stored h2' i (.ref (T.heap.size + 1 + i))
    rw [arrV_size, mo_step] at h
    have e2 : (locs ++ (List.range (i + 1)).map fun j => (⟨T.heap.size, j⟩ : Loc)) = (locs ++ (List.range i).map fun j => (⟨T.heap.size, j⟩ : Loc)) ++ [⟨T.heap.size, i⟩] := by simp [List.range_succ, List.append_assoc]
    have e3 : slots + N + (i + 1) * M = slots + N + i * M + M := by rw [Nat.succ_mul]; omega
    rw [e2, e3]
    exact h
end MA
section MW
variable {E : CtlPost} {e : Env} {d : Bool} {acts : List Action} {s : State}
theorem wp_na {c comp : ClassId} {k : Class} {type : FieldType} {len : Nat} {init : Value} (hk : s.vm.classes[c]? = some k) (hkind : k.kind = .array comp type)
    (hlimit : ¬ len > e.platform.arrayLengthLimit) (hheap : ¬ len * componentBytes type > e.platform.maxHeapBytes) (hfit : fits type init = true) (hdef : init.isDefault = true) {Q : Addr → Pre}
    (h1 : s.heap.size < e.platform.maxCells) (h2 : s.slotsUsed + len ≤ e.platform.maxSlots)
    (hq : Q s.heap.size d acts (s.pushCell (arrV c len (fun _ => init)))) :
    wp (Jvm.newArray c len init) Q E e d acts s := by
  rw [← arrV_new] at hq
  have hfits : ∀ i v, (Array.replicate len init)[i]? = some v → s.fitsSlot c .none i v = true := by
    intro i v hv
    rw [Array.getElem?_replicate] at hv
    split at hv
    · cases hv; simp [State.fitsSlot, State.slotType?, hk, hkind, hfit]
    · cases hv
  have hda : allocActs (Array.replicate len init) s.heap.size acts = acts := by
    unfold allocActs
    rw [if_pos]
    rw [Array.all_replicate]
    split <;> simp [hdef]
  simp only [Jvm.newArray, Jvm.arrayFits, wp_bind', W.ask, W.ite, hlimit, if_false, wp_pure', W.theClass, hk, hkind, hheap, W.alloc, W.stop, Option.some.injEq, exists_eq_left', Array.size_replicate, hda]
  rw [if_neg (by omega)]
  exact ⟨h1, h2, hfits, hq⟩
theorem wp_mk1 {comp cc : ClassId} {kc : Class} {k : Int32} {M : Nat} (hM : k.toNatClampNeg = M) (hkc : s.vm.classes[comp]? = some kc) (hkindc : kc.kind = .array cc .int) (hm : ¬ k < 0)
    (hl2 : ¬ M > e.platform.arrayLengthLimit) (hh2 : ¬ M * componentBytes .int > e.platform.maxHeapBytes)
    (h1 : s.heap.size < e.platform.maxCells) (h2 : s.slotsUsed + M ≤ e.platform.maxSlots)
    {Q : Addr → Pre} (hq : Q s.heap.size d acts (s.pushCell (arrV comp M (fun _ => .int 0)))) : wp (Op.multianewarray.make comp [k]) Q E e d acts s := by
  rw [Op.multianewarray.make]
  simp only [wp_bind', W.ite, hm, if_false, wp_pure', W.theClass, hkc, hkindc, Option.some.injEq, exists_eq_left']
  rw [hM]
  exact wp_na hkc hkindc hl2 hh2 rfl rfl h1 h2 hq
theorem wp_mk2 {c comp cc : ClassId} {k kc : Class} {n m : Int32} {N M : Nat} (hN : n.toNatClampNeg = N) (hM : m.toNatClampNeg = M) (hk : s.vm.classes[c]? = some k) (hkind : k.kind = .array comp (.array .int))
    (hkc : s.vm.classes[comp]? = some kc) (hkindc : kc.kind = .array cc .int) (hn : ¬ n < 0) (hm : ¬ m < 0)
    (hl1 : ¬ N > e.platform.arrayLengthLimit) (hh1 : ¬ N * componentBytes (.array .int) > e.platform.maxHeapBytes)
    (hl2 : ¬ M > e.platform.arrayLengthLimit) (hh2 : ¬ M * componentBytes .int > e.platform.maxHeapBytes)
    (hc : s.heap.size + 1 + N ≤ e.platform.maxCells) (hs : s.slotsUsed + N + N * M ≤ e.platform.maxSlots)
    {Q : Addr → Pre} (hq : ∀ d' acts', Q s.heap.size d' acts' (mf_ s c comp N M N)) : wp (Op.multianewarray.make c [n, m]) Q E e d acts s := by
  have hfind : ([m].find? (· < 0)) = none := by simp [hm]
  rw [Op.multianewarray.make]
  simp only [wp_bind', W.ite, hn, if_false, wp_pure', W.theClass, hk, hkind, Option.some.injEq, exists_eq_left']
  rw [hN]
  refine wp_na hk hkind hl1 hh1 rfl rfl (by omega) (by have := Nat.zero_le (N * M); omega) ?_
  simp only [hfind]
  rw [ite_self, wp_bind', Std.Legacy.Range.forIn_eq_forIn_range']
  have hsz : ([:N] : Std.Legacy.Range).size = N := by simp [Std.Legacy.Range.size]
  rw [hsz]
  show wp (forIn (List.range' 0 N 1) PUnit.unit _) _ E e d acts _
  have h0 : s.pushCell (arrV c N (fun _ => .null)) = mf_ s c comp N M 0 := by
    show s.pushCell _ = s.pushCell (mo_ c N s.heap.size 0)
    unfold mo_
    simp
  refine wp_forIn_inv (fun rest s' => ∃ i, i ≤ N ∧ rest = List.range' i (N - i) ∧ s' = mf_ s c comp N M i) _ _ ⟨0, Nat.zero_le _, rfl, h0⟩ ?_ ?_
  · rintro x rest s' d' acts' Q' ⟨i, hi, hl, rfl⟩ hnext
    have hlt : i < N := by
      rcases Nat.lt_or_ge i N with h | h
      · exact h
      · rw [show N - i = 0 from by omega] at hl; simp at hl
    rw [show N - i = (N - (i + 1)) + 1 from by omega, List.range'_succ] at hl
    obtain ⟨rfl, hrest⟩ := List.cons.inj hl
    obtain ⟨f1, f2, f3, f4, -⟩ := mf_facts s c comp N M x
    have hmul : x * M + M ≤ N * M := by
      have := Nat.mul_le_mul_right M (show x + 1 ≤ N from hlt)
      rw [Nat.succ_mul] at this; exact this
    simp only [wp_bind']
    refine wp_mk1 hM (by rw [f3]; exact hkc) hkindc hm hl2 hh2 (by rw [f1]; omega) (by rw [f4]; omega) ?_
    have hlt0 : s.heap.size < (mf_ s c comp N M x).heap.size := by rw [f1]; omega
    simp only [wp_bind', W.writeLoc, wp_pure']
    refine ⟨mo_ c N s.heap.size x, by rw [State.heap_pushCell_of_lt (h := hlt0)]; exact f2, (fun h => by cases h), (by show x < (arrV _ _ _).slots.size; rw [arrV_size]; exact hlt), ?_, hnext _ _ _ ⟨x + 1, hlt, hrest, ?_⟩⟩
    · show State.fitsSlot _ c .none x _ = true
      simp [State.fitsSlot, State.slotType?, f3, hk, hkind, fits]
    · rw [f1]
      show State.setCell _ _ _ = State.setCell _ _ _
      rw [mo_step]
  · rintro s' d' acts' ⟨i, hi, hl, rfl⟩
    have hiN : i = N := by
      rcases Nat.lt_or_ge i N with h | h
      · rw [show N - i = (N - (i + 1)) + 1 from by omega, List.range'_succ] at hl; cases hl
      · omega
    subst hiN
    simp only [wp_pure']
    exact hq _ _
end MW
