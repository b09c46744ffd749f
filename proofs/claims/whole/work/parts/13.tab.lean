section GT
variable {E : En_} {p : Program} {l : Launch} {e : Env} {R : Room} {s : State} {m : MethodId} {args : Array Value} {below : List Frame} {meth : Method} {c : Code} {nL : Nat} {sz0 sz : Int} {Q : State → Prop} {cc : ByteArray} {own : String} {pc : Nat} {ls ls' : List (Nat × AV_)} {st : List AV_} {v : V_} {x y : Int}
/-- a tableswitch that goes to its default, by a hole or from outside -/
theorem g_tdef (C : MC_ E p s m c cc nL own) {dflt lo hi : Int} {offs : Array Int} {len : Nat} (tgt : Nat) (hd : decode cc pc = .ok (.tableswitch dflt lo hi offs, len)) (hx : ∀ a : Int, x = a → lo ≤ a → a ≤ hi → offs[(a - lo).toNat]? = some dflt) (ht : (pc : Int) + dflt = (tgt : Int)) (kk : G_ E p l e R s m args below meth c nL sz0 Q tgt ls st v sz) : G_ E p l e R s m args below meth c nL sz0 Q pc ls ((0, x) :: st) v sz := by
  by_cases q : x < lo ∨ hi < x
  · exact g_tout C tgt hd q ht kk
  · exact g_tin C tgt hd x rfl (fun z => q (Or.inl z)) (fun z => q (Or.inr z)) (hx x rfl (by omega) (by omega)) ht kk
end GT
