/-! layer 2: growth, counts -/
def jb_ (x q : Int) : Int := bA_ (sR_ x q) 1
theorem jb_01 {x q : Int} (hx : 0 ≤ x ∧ x < 256) (hq : 0 ≤ q ∧ q < 8) : jb_ x q = 0 ∨ jb_ x q = 1 := by
  unfold jb_
  rw [bit_e (by omega) (by omega)]
  split
  · exact Or.inr rfl
  · exact Or.inl rfl
section QRG
variable {g vc0 vr0 vc vr : V_} {p : Int}
theorem added_v {k s B : Int} {T : Int} (hT : 0 ≤ T ∧ T ≤ 8) (hN : vc 189 0 = T) (hB : 0 ≤ B ∧ B ≤ 10000) (hk : ∀ t, fX4_partOf (200 + 75 * t) k vc = some (vc (200 + 75 * t) s, vc)) (hb : ∀ t, 0 ≤ t → t < T → 0 ≤ vc (200 + 75 * t) s ∧ vc (200 + 75 * t) s ≤ B) : fX4_added 189 k vc = some (ct_ (fun t => vc (200 + 75 * t) s) T.toNat, vc) ∧ 0 ≤ ct_ (fun t => vc (200 + 75 * t) s) T.toNat ∧ ct_ (fun t => vc (200 + 75 * t) s) T.toNat ≤ 80000 := by
  have bd : ∀ n : Nat, n ≤ T → 0 ≤ ct_ (fun t => vc (200 + 75 * t) s) n ∧ ct_ (fun t => vc (200 + 75 * t) s) n ≤ 10000 * n := fun n hn => ct_le n fun i i0 i1 => by have := hb i i0 (by omega); omega
  have b8 := bd T.toNat (by omega)
  refine ⟨?_, by omega, by omega⟩
  unfold fX4_added
  obtain ⟨a, e, -, h1⟩ := lp_s (σ := Int) (F := fun n t a => fX4_added_4 n 189 k a t vc) (K := fun a => some (a, vc)) (e := T) (I := fun t a => 0 ≤ t ∧ a = ct_ (fun t => vc (200 + 75 * t) s) t.toNat) (fun n t a h ht => by
    obtain ⟨t0, h1⟩ := h
    have b1 := bd t.toNat (by omega)
    have b2 := hb t t0 ht
    rw [fX4_added_4, if_neg (show ¬ vc 189 0 ≤ t by omega), ck_t (by omega), show (189 : Int) + 1 + (10 + 75 * t) = 200 + 75 * t by omega, hk, bd_s, lt_d, lt_d]
    try dsimp only
    rw [wr_id (by omega), wr_id (by omega), h1]
    refine ⟨ct_ (fun t => vc (200 + 75 * t) s) (t + 1).toNat, ?_, by omega, rfl⟩
    rw [show (t + 1).toNat = t.toNat + 1 by omega]
    simp only [ct_]
    rw [show ((t.toNat : Nat) : Int) = t by omega]) (fun n a _ => by
    rw [fX4_added_4, if_pos (show vc 189 0 ≤ T by omega)]) T.toNat fu_ 0 0 ⟨by decide, rfl⟩ (by omega) (by unfold fu_; omega)
  rw [h1] at e
  exact e
theorem grown_T (hw : WF_ g) (hC : C_ vc p g) (hD : D_ vr g) (hP : PL_ g p vc vr) : ∃ r, fX4_grown 189 p vc = some (r, vc) ∧ fX12_grownOf 814 vr = some (r, vr) := by
  have hn := hw.1
  obtain ⟨⟨t1, t2, -⟩, ⟨L, -, -, hT⟩, hj, ⟨hJ, hJ0⟩, -⟩ := hP
  have c11 : ∀ t, 0 ≤ t → t < vr 814 52 → 0 ≤ vc (200 + 75 * t) 11 ∧ vc (200 + 75 * t) 11 ≤ 10000 := fun t h h2 => by
    obtain ⟨m, hm⟩ := hT t h h2
    have m34 := hm.1.1.2.2
    have := ct_le (f := cop_ vr t) (B := 34) m.toNat (fun i i0 i1 => cop_b ⟨i0, by omega⟩)
    rw [hm.2.2.2.2.2.2.2.2.1.2.2]
    omega
  have c3 : ∀ t, 0 ≤ t → t < vr 814 52 → 0 ≤ vc (200 + 75 * t) 3 ∧ vc (200 + 75 * t) 3 ≤ 10000 := fun t h h2 => by
    obtain ⟨m, hm⟩ := hT t h h2
    have m34 := hm.1.1
    omega
  obtain ⟨a1, a2, a3⟩ := added_v (k := 6) (s := 3) (B := 10000) t2 t1 (by decide) (fun t => rfl) c3
  obtain ⟨a4, a5, a6⟩ := added_v (k := 7) (s := 11) (B := 10000) t2 t1 (by decide) (fun t => rfl) c11
  generalize eS : ct_ (fun t => vc (200 + 75 * t) 3) (vr 814 52).toNat = S at a1 a2 a3
  generalize eS2 : ct_ (fun t => vc (200 + 75 * t) 11) (vr 814 52).toNat = S2 at a4 a5 a6
  have jb : ∀ q, 0 ≤ q → q < 8 → jb_ (vc 189 1) q = 0 ∨ jb_ (vc 189 1) q = 1 := fun q q0 q1 => jb_01 hJ ⟨q0, q1⟩
  have jlb : ∀ b, 0 ≤ b → b < g 0 0 → 0 ≤ jl_ g (vc 189 1) b ∧ jl_ g (vc 189 1) b ≤ 6 := fun b b0 b1 => jl_b hw ⟨b0, b1⟩
  have sb : ∀ n : Nat, n ≤ 8 → 0 ≤ ct_ (jb_ (vc 189 1)) n ∧ ct_ (jb_ (vc 189 1)) n ≤ 1 * n := fun n hn => ct_le n fun i i0 i1 => by have := jb i i0 (by omega); omega
  have sl : ∀ n : Nat, n ≤ g 0 0 → 0 ≤ ct_ (jl_ g (vc 189 1)) n ∧ ct_ (jl_ g (vc 189 1)) n ≤ 6 * n := fun n hn => ct_le n fun i i0 i1 => jlb i i0 (by omega)
  -- the class
  have hc : fX4_grown 189 p vc = some (S + S2 + (ct_ (jl_ g (vc 189 1)) (g 0 0).toNat + ct_ (jb_ (vc 189 1)) (g 0 0).toNat), vc) := by
    unfold fX4_grown
    rw [a1, bd_s]
    try dsimp only
    rw [a4, bd_s, lt_d]
    try dsimp only
    rw [wr_id (show -2147483648 ≤ S + S2 ∧ S + S2 < 2147483648 by omega)]
    obtain ⟨a, e, -, h1⟩ := lp_s (σ := Int) (F := fun n b a => fX4_grown_16 n 189 p a b vc) (K := fun a => some (a, vc)) (e := g 0 0) (I := fun b a => 0 ≤ b ∧ a = S + S2 + (ct_ (jl_ g (vc 189 1)) b.toNat + ct_ (jb_ (vc 189 1)) b.toNat)) (fun n b a h hb => by
      obtain ⟨b0, h1⟩ := h
      have b1 := sb b.toNat (by omega)
      have b2 := sl b.toNat (by omega)
      have b3 := jb b b0 (by omega)
      have b4 := (hw.2 b b0 hb).1
      have b5 := (hC.2.2.1 b b0 hb).1
      rw [fX4_grown_16, hC.2.1, if_neg (show ¬ g 0 0 ≤ b by omega)]
      unfold fX4_joins
      refine ⟨S + S2 + (ct_ (jl_ g (vc 189 1)) (b + 1).toNat + ct_ (jb_ (vc 189 1)) (b + 1).toNat), ?_, by omega, rfl⟩
      rw [show (b + 1).toNat = b.toNat + 1 by omega]
      simp only [ct_]
      rw [show ((b.toNat : Nat) : Int) = b by omega]
      by_cases c : bA_ (sR_ (vc 189 1) b) 1 = 1
      · have u1 : jb_ (vc 189 1) b = 1 := c
        have u2 : jl_ g (vc 189 1) b = g 1 b := by unfold jl_; rw [if_pos c]
        rw [if_pos c, bd_s, if_neg n10_, ck_t (by omega), u1, u2]
        unfold fX4_grown_45
        try dsimp only
        rw [b5, wr_id (show -2147483648 ≤ g 1 b + 1 ∧ g 1 b + 1 < 2147483648 by omega), lt_d, lt_d, wr_id (by omega), wr_id (by omega), h1]
        congr 1
        omega
      · have u1 : jb_ (vc 189 1) b = 0 := by
          rcases b3 with w | w
          · exact w
          · exact absurd w c
        have u2 : jl_ g (vc 189 1) b = 0 := by unfold jl_; rw [if_neg c]
        rw [if_neg c, bd_s, if_pos (show (0 : Int) = 0 from rfl), u1, u2]
        unfold fX4_grown_45
        rw [lt_d, lt_d, wr_id (by omega), wr_id (by omega), h1]
        congr 1
        omega) (fun n a _ => by
      rw [fX4_grown_16, hC.2.1, if_pos (Int.le_refl _)]) (g 0 0).toNat fu_ 0 (S + S2) ⟨by decide, by show S + S2 = S + S2 + (0 + 0); omega⟩ (by omega) (by unfold fu_; omega)
    rw [h1] at e
    exact e
  -- the reference
  have cs : ∀ n : Nat, n ≤ vr 814 52 → 0 ≤ ct_ (fun t => vc (200 + 75 * t) 3 + vc (200 + 75 * t) 11) n ∧ ct_ (fun t => vc (200 + 75 * t) 3 + vc (200 + 75 * t) 11) n ≤ 20000 * n := fun n hn => ct_le n fun i i0 i1 => by
    have := c3 i i0 (by omega)
    have := c11 i i0 (by omega)
    omega
  have hr : fX12_grownOf 814 vr = some (ct_ (jl_ g (vc 189 1)) (g 0 0).toNat + ct_ (jb_ (vc 189 1)) 8 + ct_ (fun t => vc (200 + 75 * t) 3 + vc (200 + 75 * t) 11) (vr 814 52).toNat, vr) := by
    unfold fX12_grownOf
    rw [hj, bd_s]
    try dsimp only
    rw [linesAll_e hw hD, bd_s]
    try dsimp only
    have b2 := sl (g 0 0).toNat (by omega)
    generalize ct_ (jl_ g (vc 189 1)) (g 0 0).toNat = A at b2 ⊢
    obtain ⟨a, e, -, h1⟩ := lp_s (σ := Int) (F := fun n q a => fX12_grownOf_13 n 814 (vc 189 1) a q vr) (K := fun a => fX12_grownOf_35 fu_ 814 a 0 vr) (e := 8) (I := fun q a => 0 ≤ q ∧ a = A + ct_ (jb_ (vc 189 1)) q.toNat) (fun n q a h hq => by
      obtain ⟨q0, h1⟩ := h
      have b1 := sb q.toNat (by omega)
      have b3 := jb q q0 hq
      rw [fX12_grownOf_13, if_neg (by omega), lt_d, lt_d, show bA_ (sR_ (vc 189 1) q) 1 = jb_ (vc 189 1) q from rfl, wr_id (by omega), wr_id (by omega), h1]
      refine ⟨A + ct_ (jb_ (vc 189 1)) (q + 1).toNat, ?_, by omega, rfl⟩
      rw [show (q + 1).toNat = q.toNat + 1 by omega]
      simp only [ct_]
      rw [show ((q.toNat : Nat) : Int) = q by omega, Int.add_assoc]) (fun n a _ => by
      rw [fX12_grownOf_13, if_pos (by decide)]) 8 fu_ 0 A ⟨by decide, by show A = A + 0; omega⟩ (by decide) (by decide)
    have b8 := sb 8 (by decide)
    rw [show (8 : Int).toNat = 8 from rfl] at h1
    rw [e, h1]
    generalize ct_ (jb_ (vc 189 1)) 8 = B at b8 ⊢
    obtain ⟨a, e, -, h1⟩ := lp_s (σ := Int) (F := fun n t a => fX12_grownOf_35 n 814 a t vr) (K := fun a => some (a, vr)) (e := vr 814 52) (I := fun t a => 0 ≤ t ∧ a = A + B + ct_ (fun t => vc (200 + 75 * t) 3 + vc (200 + 75 * t) 11) t.toNat) (fun n t a h ht => by
      obtain ⟨t0, h1⟩ := h
      have b1 := cs t.toNat (by omega)
      have d1 := c3 t t0 ht
      have d2 := c11 t t0 ht
      obtain ⟨m, hm⟩ := hT t t0 ht
      have m34 := hm.1.1
      have x4 := copiedAll_e (v := vr) (t := t) (m := m) ⟨t0, by omega⟩ m34.2.2 m34.2.1
      rw [← hm.2.2.2.2.2.2.2.2.1.2.2] at x4
      rw [fX12_grownOf_35, if_neg (by omega), ck_t (by omega), x4, bd_s]
      simp only [Int.reduceAdd]
      rw [show vr 848 t = vc (200 + 75 * t) 3 by omega, wr_id (show -2147483648 ≤ vc (200 + 75 * t) 3 + vc (200 + 75 * t) 11 ∧ vc (200 + 75 * t) 3 + vc (200 + 75 * t) 11 < 2147483648 by omega), lt_d, lt_d, wr_id (by omega), wr_id (by omega), h1]
      refine ⟨A + B + ct_ (fun t => vc (200 + 75 * t) 3 + vc (200 + 75 * t) 11) (t + 1).toNat, ?_, by omega, rfl⟩
      rw [show (t + 1).toNat = t.toNat + 1 by omega]
      simp only [ct_]
      rw [show ((t.toNat : Nat) : Int) = t by omega, Int.add_assoc (A + B)]) (fun n a _ => by
      rw [fX12_grownOf_35, if_pos (Int.le_refl _)]) (vr 814 52).toNat fu_ 0 (A + B) ⟨by decide, by show A + B = A + B + 0; omega⟩ (by omega) (by unfold fu_; omega)
    rw [h1] at e
    exact e
  have t8 := ct_tail (f := jb_ (vc 189 1)) (n := (g 0 0).toNat) (8 - (g 0 0).toNat) (fun i i0 i1 => by
    unfold jb_
    rw [bit_e (by omega) (by omega), hJ0 i (by omega) (by omega)]
    rfl)
  rw [show (g 0 0).toNat + (8 - (g 0 0).toNat) = 8 by omega] at t8
  refine ⟨_, hc, ?_⟩
  rw [hr, t8, ct_sum (fun t => vc (200 + 75 * t) 3) (fun t => vc (200 + 75 * t) 11), eS, eS2]
  congr 2
  omega
end QRG
