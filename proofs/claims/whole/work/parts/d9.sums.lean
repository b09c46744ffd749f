/-! layer 2: sums over a plan -/
theorem ct_sum (f h : Int → Int) : ∀ n : Nat, ct_ (fun i => f i + h i) n = ct_ f n + ct_ h n := by
  intro n
  induction n with
  | zero => rfl
  | succ n ih => simp only [ct_]; omega
theorem ct_tail {f : Int → Int} {n : Nat} : ∀ k : Nat, (∀ i : Int, n ≤ i → i < n + k → f i = 0) → ct_ f (n + k) = ct_ f n := by
  intro k
  induction k with
  | zero => exact fun _ => rfl
  | succ k ih =>
    intro h
    rw [show n + (k + 1) = n + k + 1 by omega]
    simp only [ct_]
    rw [ih fun i i0 i1 => h i i0 (by omega), h _ (by omega) (by omega), Int.add_zero]
def jl_ (g : V_) (x b : Int) : Int := if bA_ (sR_ x b) 1 = 1 then g 1 b else 0
theorem all_255 : ∀ b : Nat, b < 8 → bA_ (sR_ 255 (b : Int)) 1 = 1 := by decide
theorem jl_255 {g : V_} {b : Int} (h : 0 ≤ b ∧ b < 8) : jl_ g 255 b = g 1 b := by
  obtain ⟨n, rfl⟩ := Int.eq_ofNat_of_zero_le h.1
  unfold jl_
  rw [if_pos (all_255 n (by omega))]
section QRS
variable {g vc vr : V_} {p : Int}
theorem jl_b (hw : WF_ g) {x b : Int} (h : 0 ≤ b ∧ b < g 0 0) : 0 ≤ jl_ g x b ∧ jl_ g x b ≤ 6 := by
  have := (hw.2 b h.1 h.2).1
  unfold jl_
  split <;> omega
theorem linesAll_e (hw : WF_ g) (hD : D_ vr g) (x : Int) : fX12_linesAll 814 x vr = some (ct_ (jl_ g x) (g 0 0).toNat, vr) := by
  have hn := hw.1
  unfold fX12_linesAll
  obtain ⟨s, e, -, h1⟩ := lp_s (σ := Int) (F := fun n b s => fX12_linesAll_4 n 814 x s b vr) (K := fun s => some (s, vr)) (e := g 0 0) (I := fun b s => 0 ≤ b ∧ s = ct_ (jl_ g x) b.toNat) (fun n b s h hb => by
    obtain ⟨b0, h1⟩ := h
    have cb := ct_le (f := jl_ g x) (B := 6) b.toNat (fun i i0 i1 => jl_b hw ⟨i0, by omega⟩)
    have jb := jl_b hw (x := x) ⟨b0, hb⟩
    have hz : vr 823 (vr 814 18) = g 0 0 := hD.2.1
    rw [fX12_linesAll_4, ck_t hD.1]
    simp only [Int.reduceAdd]
    rw [if_neg (show ¬ vr 823 (vr 814 18) ≤ b by omega)]
    refine ⟨ct_ (jl_ g x) (b + 1).toNat, ?_, by omega, rfl⟩
    rw [show (b + 1).toNat = b.toNat + 1 by omega]
    simp only [ct_]
    rw [show ((b.toNat : Nat) : Int) = b by omega]
    unfold jl_ at jb
    by_cases c : bA_ (sR_ x b) 1 = 1
    · rw [if_pos c] at jb
      rw [if_pos c, linesOf_e hD (by omega), bd_s, lt_d, lt_d]
      try dsimp only
      rw [wr_id (by omega), wr_id (by omega), h1]
      unfold jl_
      rw [if_pos c]
    · rw [if_neg c, lt_d, wr_id (by omega), h1]
      unfold jl_
      rw [if_neg c, Int.add_zero]) (fun n s _ => by
    have hz : vr 823 (vr 814 18) = g 0 0 := hD.2.1
    rw [fX12_linesAll_4, ck_t hD.1]
    simp only [Int.reduceAdd]
    rw [if_pos (show vr 823 (vr 814 18) ≤ g 0 0 by omega)]) (g 0 0).toNat fu_ 0 0 ⟨by decide, rfl⟩ (by omega) (by unfold fu_; omega)
  rw [h1] at e
  exact e
theorem allLines_e (hw : WF_ g) (hC : C_ vc p g) : fX5_allLines p vc = some (ct_ (jl_ g 255) (g 0 0).toNat, vc) := by
  have hn := hw.1
  unfold fX5_allLines
  obtain ⟨s, e, -, h1⟩ := lp_s (σ := Int) (F := fun n b s => fX5_allLines_4 n p s b vc) (K := fun s => some (s, vc)) (e := g 0 0) (I := fun b s => 0 ≤ b ∧ s = ct_ (jl_ g 255) b.toNat) (fun n b s h hb => by
    obtain ⟨b0, h1⟩ := h
    have cb := ct_le (f := jl_ g 255) (B := 6) b.toNat (fun i i0 i1 => jl_b hw ⟨i0, by omega⟩)
    have jb := jl_b hw (x := 255) ⟨b0, hb⟩
    have h5 := (hC.2.2.1 b b0 hb).1
    rw [fX5_allLines_4, hC.2.1, if_neg (show ¬ g 0 0 ≤ b by omega), ck_t (by omega), lt_d, lt_d, h5, ← jl_255 (g := g) (show 0 ≤ b ∧ b < 8 by omega), wr_id (by omega), wr_id (by omega), h1]
    refine ⟨ct_ (jl_ g 255) (b + 1).toNat, ?_, by omega, rfl⟩
    rw [show (b + 1).toNat = b.toNat + 1 by omega]
    simp only [ct_]
    rw [show ((b.toNat : Nat) : Int) = b by omega]) (fun n s _ => by
    rw [fX5_allLines_4, hC.2.1, if_pos (Int.le_refl _)]) (g 0 0).toNat fu_ 0 0 ⟨by decide, rfl⟩ (by omega) (by unfold fu_; omega)
  rw [h1] at e
  exact e
/-- a sum over the traces, in both -/
theorem sum_T {k s : Int} {T : Int} (hT : 0 ≤ T ∧ T ≤ 8) (hN : vc 189 0 = T) (hk : ∀ t, fX4_partOf (200 + 75 * t) k vc = some (vc (200 + 75 * t) s, vc)) (F : Nat → Int → Int → Option (Int × V_)) (hF : ∀ n t a, 0 ≤ t → t < T → F (n + 1) t a = F n (t + 1) (wr_ (a + vc (200 + 75 * t) s))) (hE : ∀ n a, F (n + 1) T a = some (a, vr)) : ∃ r, fX4_added 189 k vc = some (r, vc) ∧ F fu_ 0 0 = some (r, vr) := by
  unfold fX4_added
  obtain ⟨a, e, -⟩ := lp_s (σ := Int) (α := Option (Int × V_) × Option (Int × V_)) (F := fun n t a => (fX4_added_4 n 189 k a t vc, F n t a)) (K := fun a => (some (a, vc), some (a, vr))) (e := T) (I := fun t _ => 0 ≤ t) (fun n t a h ht => by
    try dsimp only
    rw [fX4_added_4, if_neg (show ¬ vc 189 0 ≤ t by omega), ck_t (by omega), show (189 : Int) + 1 + (10 + 75 * t) = 200 + 75 * t by omega, hk, bd_s, lt_d, lt_d, wr_id (show -2147483648 ≤ t + 1 ∧ t + 1 < 2147483648 by omega), hF n t a h ht]
    exact ⟨_, rfl, by omega⟩) (fun n a _ => by
    try dsimp only
    rw [fX4_added_4, if_pos (show vc 189 0 ≤ T by omega), hE]) T.toNat fu_ 0 0 (by decide) (by omega) (by unfold fu_; omega)
  obtain ⟨u1, u2⟩ := Prod.mk.inj e
  exact ⟨a, u1, u2⟩
/-- the sums the reference takes by a sort -/
theorem sumOf_T {k kk s : Int} (hP : PL_ g p vc vr) (hk : ∀ t, fX4_partOf (200 + 75 * t) k vc = some (vc (200 + 75 * t) s, vc)) (hr : ∀ n t a, 0 ≤ t → t < vr 814 52 → fX12_sumOf_4 (n + 1) 814 kk a t vr = fX12_sumOf_70 (fX12_sumOf_4 n) 814 kk t a (vc (200 + 75 * t) s) vr) : ∃ r, fX4_added 189 k vc = some (r, vc) ∧ fX12_sumOf 814 kk vr = some (r, vr) := by
  obtain ⟨t1, t2, -⟩ := hP.1
  exact sum_T t2 t1 hk (fun n t a => fX12_sumOf_4 n 814 kk a t vr) (fun n t a h ht => by
    rw [hr n t a h ht]
    unfold fX12_sumOf_70
    rw [lt_d, lt_d, wr_id (show -2147483648 ≤ t + 1 ∧ t + 1 < 2147483648 by omega)]) (fun n a => by
    rw [fX12_sumOf_4, if_pos (Int.le_refl _)])
theorem sums_Q (hg : RG_ g) (hD : D_ vr g) (hP : PL_ g p vc vr) : (∃ r, fX4_added 189 1 vc = some (r, vc) ∧ fX12_sumOf 814 0 vr = some (r, vr)) ∧ (∃ r, fX4_added 189 2 vc = some (r, vc) ∧ fX12_sumOf 814 1 vr = some (r, vr)) ∧ (∃ r, fX4_added 189 3 vc = some (r, vc) ∧ fX12_sumOf 814 2 vr = some (r, vr)) ∧ (∃ r, fX4_added 189 4 vc = some (r, vc) ∧ fX12_sumOf 814 3 vr = some (r, vr)) ∧ (∃ r, fX4_added 189 5 vc = some (r, vc) ∧ fX12_sumOf 814 4 vr = some (r, vr)) ∧ ∃ r, fX4_added 189 0 vc = some (r, vc) ∧ fX12_growth_61 fu_ 814 0 0 vr = some (r, vr) := by
  obtain ⟨t1, t2, -⟩ := hP.1
  obtain ⟨L, -, -, hT⟩ := hP.2.1
  have X : ∀ t, 0 ≤ t → t < vr 814 52 → _ := fun t t0 t1 => (hT t t0 t1).elim fun m hm => trc_e hg hD ⟨t0, by omega⟩ hm
  refine ⟨sumOf_T (s := 9) hP (fun t => ?_) (fun n t a h ht => ?_), sumOf_T (s := 8) hP (fun t => ?_) (fun n t a h ht => ?_), sumOf_T (s := 6) hP (fun t => ?_) (fun n t a h ht => ?_), sumOf_T (s := 10) hP (fun t => ?_) (fun n t a h ht => ?_), sumOf_T (s := 5) hP (fun t => ?_) (fun n t a h ht => ?_), sum_T (s := 4) t2 t1 (fun t => ?_) (fun n t a => fX12_growth_61 n 814 a t vr) (fun n t a h ht => ?_) (fun n a => ?_)⟩
  · rfl
  · obtain ⟨x1, x2, x3, x4, x5, x6, x7⟩ := X t h ht
    rw [fX12_sumOf_4, if_neg (by omega), if_pos rfl, x5, bd_s]
  · rfl
  · obtain ⟨x1, x2, x3, x4, x5, x6, x7⟩ := X t h ht
    rw [fX12_sumOf_4, if_neg (by omega), if_neg (by decide), if_pos rfl, x7, bd_s]
  · rfl
  · obtain ⟨x1, x2, x3, x4, x5, x6, x7⟩ := X t h ht
    rw [fX12_sumOf_4, if_neg (by omega), if_neg (by decide), if_neg (by decide), if_pos rfl, x2, bd_s]
  · rfl
  · obtain ⟨x1, x2, x3, x4, x5, x6, x7⟩ := X t h ht
    rw [fX12_sumOf_4, if_neg (by omega), if_neg (by decide), if_neg (by decide), if_neg (by decide), if_pos rfl, x3, bd_s]
  · rfl
  · obtain ⟨m, hm⟩ := hT t h ht
    rw [fX12_sumOf_4, if_neg (by omega), if_neg (by decide), if_neg (by decide), if_neg (by decide), if_neg (by decide), ck_t (by omega), hm.1.2.1]
    rfl
  · rfl
  · obtain ⟨x1, x2, x3, x4, x5, x6, x7⟩ := X t h ht
    rw [fX12_growth_61, if_neg (by omega), x1, bd_s, lt_d, lt_d, wr_id (show -2147483648 ≤ t + 1 ∧ t + 1 < 2147483648 by omega)]
  · rw [fX12_growth_61, if_pos (Int.le_refl _)]
end QRS
