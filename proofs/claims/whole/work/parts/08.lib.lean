/-! Math.max, Math.min, System.arraycopy, Arrays.fill -/
def mx_ (x y : Int) : Int := if x < y then y else x
def mn_ (x y : Int) : Int := if y < x then y else x
def cp_ (v : V_) (a sp b dp n : Int) : V_ := fun d j => if d = b ∧ dp ≤ j ∧ j < dp + n then v a (sp + (j - dp)) else v d j
def fl_ (v : V_) (a n x : Int) : V_ := fun d j => if d = a ∧ 0 ≤ j ∧ j < n then x else v d j
def ySys_ : MethodName := ⟨"java/lang/System", "arraycopy", "(Ljava/lang/Object;ILjava/lang/Object;II)V"⟩
def yMax_ : MethodName := ⟨"java/lang/Math", "max", "(II)I"⟩
def yMin_ : MethodName := ⟨"java/lang/Math", "min", "(II)I"⟩
def yFillI_ : MethodName := ⟨"java/util/Arrays", "fill", "([II)V"⟩
def yFillJ_ : MethodName := ⟨"java/util/Arrays", "fill", "([JJ)V"⟩
theorem kSysS : Cond.static arraycopyName ∈ tb_ := tb_at 714 (by decide +kernel) (by decide +kernel)
theorem kSysN : Cond.native arraycopyName ∈ tb_ := tb_at 715 (by decide +kernel) (by decide +kernel)
theorem kMaxS : Cond.static Lib.Math.max.name ∈ tb_ := tb_at 1144 (by decide +kernel) (by decide +kernel)
theorem kMaxC : Cond.code Lib.Math.max.name Lib.Math.max.code 2 (some .int) ∈ tb_ := tb_at 1145 (by decide +kernel) (by decide +kernel)
theorem kMinS : Cond.static Lib.Math.min.name ∈ tb_ := tb_at 1217 (by decide +kernel) (by decide +kernel)
theorem kMinC : Cond.code Lib.Math.min.name Lib.Math.min.code 2 (some .int) ∈ tb_ := tb_at 1218 (by decide +kernel) (by decide +kernel)
theorem kMathI : Cond.initialized "java/lang/Math" ∈ tb_ := tb_mem (by decide +kernel) (by decide +kernel)
theorem kSysI : Cond.initialized "java/lang/System" ∈ tb_ := tb_mem (by decide +kernel) (by decide +kernel)
section GL
variable {E : En_} {p : Program} {l : Launch} {e : Env} {R : Room} {s : State} {m : MethodId} {args : Array Value} {below : List Frame} {meth : Method} {c : Code} {nL : Nat} {sz0 sz : Int} {Q : State → Prop} {cc : ByteArray} {own : String} {pc : Nat} {ls ls' : List (Nat × AV_)} {st : List AV_} {v : V_} {x y h i : Int}
theorem g_max (C : MC_ E p s m c cc nL own) {index : Nat} (w1 : Cond.methodLink own index Lib.Math.max.name ∈ tb_) (hd : decode cc pc = .ok (.invokestatic index, 3)) (hR : 1 ≤ R.frames ∧ cat_ st + 13 ≤ R.locals) (hf : (sz - sz0).toNat ≤ R.cells ∧ 2000 * (sz - sz0).toNat ≤ R.slots) (kk : G_ E p l e R s m args below meth c nL sz0 Q (pc + 3) ls ((0, mx_ x y) :: st) v sz) : G_ E p l e R s m args below meth c nL sz0 Q pc ls ((0, y) :: (0, x) :: st) v sz := fun H locs lr sr hI hL hl hs => by
  obtain ⟨_, _, rfl, ⟨Y, rfl, rfl⟩, _, zr, rfl, ⟨X, rfl, rfl⟩, hs⟩ := hs
  have hts := C.2.2.2.2.at args
  obtain ⟨lq, hl1, hl2⟩ := id hl
  refine va_mmax C.1 C.2.1 (C.2.2.1.trans hl1.1.symm) C.2.2.2.1 (hts _ w1) (hts _ kMaxS) (hts _ kMathI) (hts _ kMaxC) hR.1 (by rw [so_cat hs]; exact hR.2) hf.1 hf.2 hd (kk H locs lr _ hI hL hl ⟨_, _, rfl, ⟨_, rfl, ?_⟩, hs⟩)
  unfold mx_
  rw [apply_ite Int32.toInt]
  simp only [Int32.lt_iff_toInt_lt]
theorem g_min (C : MC_ E p s m c cc nL own) {index : Nat} (w1 : Cond.methodLink own index Lib.Math.min.name ∈ tb_) (hd : decode cc pc = .ok (.invokestatic index, 3)) (hR : 1 ≤ R.frames ∧ cat_ st + 13 ≤ R.locals) (hf : (sz - sz0).toNat ≤ R.cells ∧ 2000 * (sz - sz0).toNat ≤ R.slots) (kk : G_ E p l e R s m args below meth c nL sz0 Q (pc + 3) ls ((0, mn_ x y) :: st) v sz) : G_ E p l e R s m args below meth c nL sz0 Q pc ls ((0, y) :: (0, x) :: st) v sz := fun H locs lr sr hI hL hl hs => by
  obtain ⟨_, _, rfl, ⟨Y, rfl, rfl⟩, _, zr, rfl, ⟨X, rfl, rfl⟩, hs⟩ := hs
  have hts := C.2.2.2.2.at args
  obtain ⟨lq, hl1, hl2⟩ := id hl
  refine va_mmin C.1 C.2.1 (C.2.2.1.trans hl1.1.symm) C.2.2.2.1 (hts _ w1) (hts _ kMinS) (hts _ kMathI) (hts _ kMinC) hR.1 (by rw [so_cat hs]; exact hR.2) hf.1 hf.2 hd (kk H locs lr _ hI hL hl ⟨_, _, rfl, ⟨_, rfl, ?_⟩, hs⟩)
  unfold mn_
  rw [apply_ite Int32.toInt]
  simp only [Int32.lt_iff_toInt_lt]
theorem nnI {X : Int32} (h : 0 ≤ X.toInt) : ¬ X < 0 := by
  intro q
  rw [Int32.lt_iff_toInt_lt, z32] at q
  omega
theorem cp_in {v : V_} {a sp b dp n d j : Int} (h : d = b ∧ dp ≤ j ∧ j < dp + n) : cp_ v a sp b dp n d j = v a (sp + (j - dp)) := if_pos h
theorem cp_out {v : V_} {a sp b dp n d j : Int} (h : ¬ (d = b ∧ dp ≤ j ∧ j < dp + n)) : cp_ v a sp b dp n d j = v d j := if_neg h
theorem g_copy (C : MC_ E p s m c cc nL own) {index : Nat} (w1 : Cond.methodLink own index arraycopyName ∈ tb_) (n0 n1 : Nat) {a0 a1 sp dp n : Int} (hd : decode cc pc = .ok (.invokestatic index, 3)) (r0 : 0 < a0 ∧ a0 < sz) (t0 : ty_ a0 = 20) (l0 : ln_ a0 = n0) (r1 : 0 < a1 ∧ a1 < sz) (t1 : ty_ a1 = 20) (l1 : ln_ a1 = n1) (hb : 0 ≤ sp ∧ 0 ≤ dp ∧ 0 ≤ n ∧ sp + n ≤ (n0 : Int) ∧ dp + n ≤ (n1 : Int)) (hR : 1 ≤ R.frames ∧ cat_ st + (nativeFrameWords "java/lang/System" "arraycopy" 5 + 11) ≤ R.locals) (v' : V_) (hv' : v' = cp_ v a0 sp a1 dp n) (kk : G_ E p l e R s m args below meth c nL sz0 Q (pc + 3) ls st v' sz) : G_ E p l e R s m args below meth c nL sz0 Q pc ls ((0, n) :: (0, dp) :: (2, a1) :: (0, sp) :: (2, a0) :: st) v sz := fun H locs lr sr hI hL hl hs => by
  subst hv'
  obtain ⟨_, _, rfl, ⟨N, rfl, eN⟩, _, _, rfl, ⟨P, rfl, eP⟩, _, _, rfl, h1, _, _, rfl, ⟨S, rfl, eS⟩, _, zr, rfl, h0, hs⟩ := hs
  rcases h1 with ⟨e1, rfl⟩ | ⟨e1, rfl⟩
  · omega
  rcases h0 with ⟨e0, rfl⟩ | ⟨e0, rfl⟩
  · omega
  have hts := C.2.2.2.2.at args
  obtain ⟨lq, hl1, hl2⟩ := id hl
  obtain ⟨f, c0, f0⟩ := ce_arr hI r0 t0 l0 (by decide)
  obtain ⟨g, c1, g0⟩ := ce_arr hI r1 t1 l1 (by decide)
  obtain ⟨b1, b2, b3, b4, b5⟩ := hb
  have nn : ∀ z : Int32, z.toNatClampNeg = z.toInt.toNat := fun _ => rfl
  obtain ⟨-, k0, hk0, cm0, hkk0⟩ := (C.2.2.2.2.2.2 0 _ rfl).1 n0 f
  obtain ⟨-, k1, hk1, cm1, hkk1⟩ := (C.2.2.2.2.2.2 0 _ rfl).1 n1 g
  have b4' : S.toNatClampNeg + N.toNatClampNeg ≤ n0 := by rw [nn, nn]; omega
  have b5' : P.toNatClampNeg + N.toNatClampNeg ≤ n1 := by rw [nn, nn]; omega
  have hf0 : ∀ k : Nat, k < n0 → ∃ X : Int32, f k = .int X ∧ X.toInt = v a0 k := fun k hk => f0 k hk
  intro T hT X
  obtain ⟨vm', X', step⟩ := X.arraycopy C.1 C.2.2.2.1 (hts _ w1) (hts _ kSysN) (hts _ kSysS) (hts _ kSysI) (src := E.1 + a0.toNat) (dst := E.1 + a1.toNat) (cs := arrV (E.2.2.2.2.1 0) n0 f) (cd := arrV (E.2.2.2.2.1 0) n1 g) (srcPos := S) (destPos := P) (n := N) (by rw [hT]; exact c0) (by rw [hT]; exact c1)
    (fun _ h => by cases h) (fun _ h => by cases h) (fun h => by cases h) (fun h => by cases h) hk0 hk1 hkk0 hkk1 (by simp [at_, refKind]) (nnI (by omega)) (nnI (by omega)) (nnI (by omega))
    (by rw [arrV_size]; omega) (by rw [arrV_size]; omega)
    (fun vm₁ _ i hi => by
      have h9 : S.toNatClampNeg + i < n0 := by omega
      have e9 : (arrV (E.2.2.2.2.1 0) n0 f).slots.getD (S.toNatClampNeg + i) .null = f (S.toNatClampNeg + i) := by
        rw [Array.getD_eq_getD_getElem?, arrV_read _ _ h9]
        rfl
      obtain ⟨Z, eZ, -⟩ := hf0 _ h9
      refine ⟨?_, ?_⟩
      · rw [e9, eZ]
        rfl
      · rw [e9, eZ]
        exact trivial)
    (g := F0 m pc lr (.int N :: .int P :: .ref (E.1 + a1.toNat) :: .int S :: .ref (E.1 + a0.toNat) :: zr)) rfl (by rw [C.2.2.1]; exact hl1.1) (rest := zr) rfl (by rw [C.2.1]; exact hd) hR.1 (by rw [so_cat hs]; show 2 * 0 + _ + _ ≤ _; omega)
  have e1 : copied (arrV (E.2.2.2.2.1 0) n0 f) (arrV (E.2.2.2.2.1 0) n1 g) S P N = arrV (E.2.2.2.2.1 0) n1 (va_cpy f g S.toNatClampNeg P.toNatClampNeg N.toNatClampNeg) := va_copied (fun z => z) _ _ f g b4'
  rw [e1] at X' step
  have hlt : E.1 + a1.toNat < H.size := (Array.getElem?_eq_some_iff.mp c1).1
  have hheap : ((T.setVm vm').setCell (E.1 + a1.toNat) (arrV (E.2.2.2.2.1 0) n1 (va_cpy f g S.toNatClampNeg P.toNatClampNeg N.toNatClampNeg))).heap = H.setIfInBounds (E.1 + a1.toNat) (arrV (E.2.2.2.2.1 0) n1 (va_cpy f g S.toNatClampNeg P.toNatClampNeg N.toNatClampNeg)) := by rw [← hT]; rfl
  have oq : ∀ q : Nat, q ≠ E.1 + a1.toNat → (H.setIfInBounds (E.1 + a1.toNat) (arrV (E.2.2.2.2.1 0) n1 (va_cpy f g S.toNatClampNeg P.toNatClampNeg N.toNatClampNeg)))[q]? = H[q]? := fun q hq => by simp [Array.getElem?_setIfInBounds, Ne.symm hq]
  have hI' : In_ E (cp_ v a0 sp a1 dp n) sz (H.setIfInBounds (E.1 + a1.toNat) (arrV (E.2.2.2.2.1 0) n1 (va_cpy f g S.toNatClampNeg P.toNatClampNeg N.toNatClampNeg))) := by
    obtain ⟨i1, i2, i3, i4, i5⟩ := hI
    refine ⟨by simp; exact i1, i2, fun q hq => by rw [oq q (by omega)]; exact i3 q hq, fun a ha1 ha2 => ?_, fun a ha j o ho => ?_⟩
    · by_cases e : a = a1
      · subst e
        refine ce_arr_of t1 l1 (by decide) (w := va_cpy f g S.toNatClampNeg P.toNatClampNeg N.toNatClampNeg) (by simp [Array.getElem?_setIfInBounds, hlt]) fun k hk => ?_
        unfold va_cpy
        rw [nn, nn, nn]
        by_cases q : P.toInt.toNat ≤ k ∧ k < P.toInt.toNat + N.toInt.toNat
        · rw [if_pos q, cp_in ⟨rfl, by omega, by omega⟩]
          have h9 := f0 (S.toInt.toNat + (k - P.toInt.toNat)) (by omega)
          rw [show ((S.toInt.toNat + (k - P.toInt.toNat) : Nat) : Int) = sp + ((k : Int) - dp) by omega] at h9
          exact h9
        · rw [if_neg q, cp_out (fun z => q (by omega))]
          exact g0 k hk
      · exact ce_kept (i4 a ha1 ha2) (oq _ (by omega)) (fun j => cp_out (fun z => e z.1))
    · by_cases e : a = a1
      · subst e
        exfalso
        rw [t1, l1] at ho
        unfold of_ ofA_ at ho
        simp at ho
      · rw [cp_out (fun z => e z.1)]
        exact i5 a ha j o ho
  obtain ⟨t, a2, b⟩ := kk _ _ lr zr hI' (fun q hq => by
      rcases List.mem_append.mp hq with h | h
      · exact hL q h
      · obtain ⟨z, -, hz⟩ := List.mem_map.mp h
        rw [← hz]
        show E.1 < E.1 + a1.toNat
        omega) hl hs _ hheap X'
  exact ⟨t, step t a2, b⟩
end GL
