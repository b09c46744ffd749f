/-! what the printed methods use -/
def fu_ : Nat := 100000
theorem nvI {B : Nat} {x : Int} : ∀ z, vo_ B 0 x z → narrow .int z = z ∧ fits .int z = true := by
  rintro z ⟨X, rfl, _⟩
  exact ⟨rfl, rfl⟩
theorem nvZ {B : Nat} {x : Int} (hx : x = 0 ∨ x = 1) : ∀ z, vo_ B 0 x z → narrow .boolean z = z ∧ fits .boolean z = true := by
  rintro z ⟨X, rfl, e⟩
  exact narrow_z (by rw [e]; exact hx)
theorem nvJ {B : Nat} {x : Int} : ∀ z, vo_ B 1 x z → narrow .long z = z ∧ fits .long z = true := by
  rintro z ⟨X, rfl, _⟩
  exact ⟨rfl, rfl⟩
theorem nvR {B : Nat} {x : Int} {n : String} : ∀ z, vo_ B 2 x z → narrow (.object n) z = z ∧ fits (.object n) z = true := by
  rintro z (⟨_, rfl⟩ | ⟨_, rfl⟩)
  · exact ⟨rfl, rfl⟩
  · exact ⟨rfl, rfl⟩
theorem oA_lines : ∀ k : Nat, k < 48 → ofA_ 25 48 k = some (6 + 1 * (k : Int)) := fun k hk => by simp [ofA_, Nat.not_le.mpr hk]
theorem oA_ends : ∀ k : Nat, k < 8 → ofA_ 25 8 k = some (53 + 1 * (k : Int)) := fun k hk => by simp [ofA_, Nat.not_le.mpr hk]
theorem oA_items : ∀ k : Nat, k < 34 → ofA_ 26 34 k = some (5 + 2 * (k : Int)) := fun k hk => by simp [ofA_, Nat.not_le.mpr hk]
theorem oA_traces : ∀ k : Nat, k < 8 → ofA_ 27 8 k = some (10 + 75 * (k : Int)) := fun k hk => by simp [ofA_, Nat.not_le.mpr hk]
theorem oA_ring : ∀ k : Nat, k < 40 → ofA_ 24 40 k = some (1 + 1 * (k : Int)) := fun k hk => by simp [ofA_, Nat.not_le.mpr hk]
theorem oA_slots : ∀ k : Nat, k < 3 → ofA_ 24 3 k = some (1 + 1 * (k : Int)) := fun k hk => by simp [ofA_, Nat.not_le.mpr hk]
section GX
variable {E : En_} {p : Program} {l : Launch} {e : Env} {R : Room} {s : State} {m : MethodId} {args : Array Value} {below : List Frame} {meth : Method} {c : Code} {nL : Nat} {sz0 sz : Int} {Q : State → Prop} {cc : ByteArray} {own : String} {pc : Nat} {ls ls' : List (Nat × AV_)} {st : List AV_} {v : V_} {x y : Int}
theorem g_iincx (C : MC_ E p s m c cc nL own) {i : Nat} {n : Int} (hx : y = wr_ (x + n)) (hd : decode cc pc = .ok (.iinc i n, 3)) (k : Nat) (hk : ls[k]? = some (i, (0, x))) (hn : i < nL) (hi : (Int32.ofInt n).toInt = n) (hl' : (i, (0, y)) :: st1_ i ls = ls') (kk : G_ E p l e R s m args below meth c nL sz0 Q (pc + 3) ls' st v sz) : G_ E p l e R s m args below meth c nL sz0 Q pc ls st v sz := by
  subst hx
  exact g_iinc C hd k hk hn hi hl' kk
end GX
