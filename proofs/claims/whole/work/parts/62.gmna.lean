section GMG
variable {E : En_} {p : Program} {l : Launch} {e : Env} {R : Room} {s : State} {m : MethodId} {args : Array Value} {below : List Frame} {meth : Method} {c : Code} {nL : Nat} {sz0 sz : Int} {Q : State → Prop} {cc : ByteArray} {own : String} {pc : Nat} {ls : List (Nat × AV_)} {st : List AV_} {v : V_} {x y : Int}
theorem g_mna (C : MC_ E p s m c cc nL own) {index : Nat} (N M : Nat) (kcl : Cond.classLink own index "[[I" ∈ tb_) (kar : Cond.arrayClass .int ∈ tb_) (kA : KAA_ s) (hE : ∀ a, ¬ E.2.2.2.2.2 a) (hty : ty_ sz = 24) (hln : ln_ sz = N) (hrow : ∀ j : Nat, j < N → ty_ (sz + 1 + (j : Int)) = 20 ∧ ln_ (sz + 1 + (j : Int)) = M) (hx : x = (N : Int)) (hy : y = (M : Int)) (hz : sz0 ≤ sz) (hf : (sz + 1 + (N : Int) - sz0).toNat ≤ R.cells ∧ 2000 * (sz + 1 + (N : Int) - sz0).toNat ≤ R.slots) (hN : N ≤ 1000) (hM : M ≤ 1000) (hd : decode cc pc = .ok (.multianewarray index 2, 4)) (kk : G_ E p l e R s m args below meth c nL sz0 Q (pc + 4) ls ((2, sz) :: st) (mz_ v sz N) (sz + 1 + (N : Int))) : G_ E p l e R s m args below meth c nL sz0 Q pc ls ((0, y) :: (0, x) :: st) v sz := fun H locs lr sr hI hL hl hs => by
  subst hx; subst hy
  obtain ⟨_, _, rfl, ⟨Y, rfl, eY⟩, _, zr, rfl, ⟨X, rfl, eX⟩, hs⟩ := hs
  have hKs := C.2.2.2.2
  have hts := hKs.at args
  have h1 := hI.1
  have h2 := hI.2.1
  have e0 : X.toNatClampNeg = N := by
    show X.toInt.toNat = N
    rw [eX]; rfl
  have e1 : Y.toNatClampNeg = M := by
    show Y.toInt.toNat = M
    rw [eY]; rfl
  have hNM : N * M ≤ N * 1000 := Nat.mul_le_mul_left N hM
  refine w_mna C.1 C.2.1 C.2.2.2.1 (hts _ kcl) kA (hts _ kar) e0 e1 (nnI (by omega)) (nnI (by omega)) hN hM (by omega) (by omega) hd fun H1 cA comp g1 g2 g3 g4 g5 g6 => ?_
  have c4 : cA = E.2.2.2.2.1 4 := Option.some.inj (g1.symm.trans (hKs.2.2 4 _ rfl).2)
  have c0 : comp = E.2.2.2.2.1 0 := Option.some.inj (g2.symm.trans (hKs.2.2 0 _ rfl).2)
  subst c4; subst c0
  refine W.widen (k := (sz + 1 + (N : Int) - sz0).toNat) (n := 2000 * (sz + 1 + (N : Int) - sz0).toNat) (by omega) (by omega) ?_
  refine kk H1 _ lr _ ⟨by omega, by omega, fun q hq => by rw [g5 q (by omega)]; exact hI.2.2.1 q hq, fun a ha1 ha2 => ?_, fun a ha => absurd ha (hE a)⟩ (fun q hq => ?_) hl ⟨_, _, rfl, Or.inr ⟨by omega, by rw [h1]⟩, hs⟩
  · by_cases q1 : a < sz
    · exact ce_kept (hI.2.2.2.1 a ha1 q1) (g5 _ (by omega)) (fun j => mz_old j (Or.inl q1))
    · by_cases q2 : a = sz
      · subst q2
        rw [h1] at g4
        refine ce_arr_of hty hln (by decide) g4 fun k hk => ?_
        rw [mz_out ⟨by omega, by omega⟩, if_pos hk]
        exact Or.inr ⟨by omega, by rw [show (a + 1 + (k : Int)).toNat = a.toNat + 1 + k by omega]; exact congrArg Value.ref (by omega : (E.1 + a.toNat + 1 + k : Nat) = E.1 + (a.toNat + 1 + k))⟩
      · obtain ⟨j, rfl⟩ : ∃ j : Nat, a = sz + 1 + (j : Int) := ⟨(a - sz - 1).toNat, by omega⟩
        have hj : j < N := by omega
        obtain ⟨r1, r2⟩ := hrow j hj
        have g7 := g6 j hj
        rw [show H.size + 1 + j = E.1 + (sz + 1 + (j : Int)).toNat by omega] at g7
        refine ce_arr_of r1 r2 (by decide) g7 fun k hk => ?_
        rw [mz_row _ ⟨by omega, by omega⟩]
        exact ⟨0, rfl, rfl⟩
  · rcases List.mem_append.mp hq with h5 | h5
    · exact hL q h5
    · obtain ⟨j, -, rfl⟩ := List.mem_map.mp h5
      show E.1 < H.size
      omega
end GMG
