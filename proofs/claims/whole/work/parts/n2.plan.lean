/-! layer 2: the class's constructors -/
section CLS
variable {c c' : Int → Int → Int} {f : Int → Int} {u v : V_} {x0 j j' n s y lo hi a k : Int}
theorem nx_c (h : ∀ a, lo ≤ a → a < hi → ∀ k, c a k = c' a k) : nx_ c v lo hi = nx_ c' v lo hi := by
  funext a k
  by_cases q : lo ≤ a ∧ a < hi
  · rw [nx_i q, nx_i q, h a q.1 q.2]
  · rw [nx_o q, nx_o q]
theorem px_c (h20 : ty_ x0 < 20) (hj : 0 < j ∧ 0 < n ∧ j' = j + n ∧ 0 < x0) (hs : iv_ x0 s = x0 + j) (hd : ∀ m : Nat, m < 90 → (m : Int) ≠ s → ¬ (x0 + j ≤ iv_ x0 m ∧ iv_ x0 m < x0 + j + n)) : up_ (nx_ c (px_ c f v x0 j) (x0 + j) (x0 + j + n)) x0 s (x0 + j) = px_ c f v x0 j' := by
  obtain ⟨h1, h2, rfl, h3⟩ := hj
  exact px_s h1 h2 hs fun k hk => iv_all (P := fun k y => k ≠ s → ¬ (x0 + j ≤ y ∧ y < x0 + j + n)) h20 hd (fun k _ q => by omega) k hk
/-- a range that no static slot names -/
theorem px_g (h20 : ty_ x0 < 20) (hj : 0 < j ∧ 0 < n ∧ j' = j + n ∧ 0 < x0) (hd : ∀ m : Nat, m < 90 → ¬ (x0 + j ≤ iv_ x0 m ∧ iv_ x0 m < x0 + j + n)) : nx_ c (px_ c f v x0 j) (x0 + j) (x0 + j + n) = px_ c f v x0 j' := by
  obtain ⟨h1, h2, rfl, h3⟩ := hj
  have hu : ∀ k, ¬ (x0 + j ≤ iv_ x0 k ∧ iv_ x0 k < x0 + j + n) := fun k => iv_all (P := fun k y => ¬ (x0 + j ≤ y ∧ y < x0 + j + n)) h20 hd (fun k q => by omega) k
  funext a k
  by_cases h : a = x0
  · subst h
    rw [nx_o (by omega)]
    unfold px_
    rw [if_pos rfl, if_pos rfl]
    have := hu k
    by_cases h2 : a < iv_ a k ∧ iv_ a k < a + j
    · rw [if_pos h2, if_pos (by omega)]
    · rw [if_neg h2, if_neg (by omega)]
  · by_cases h2 : x0 + j ≤ a ∧ a < x0 + j + n
    · rw [nx_i h2]
      unfold px_
      rw [if_neg h, if_pos (by omega)]
    · rw [nx_o h2]
      unfold px_
      rw [if_neg h, if_neg h]
      by_cases h3 : x0 < a ∧ a < x0 + j
      · rw [if_pos h3, if_pos (by omega)]
      · rw [if_neg h3, if_neg (by omega)]
theorem px_z (hz : ∀ k, c (x0 + j) k = 0) (h20 : ty_ x0 < 20) (hj : 0 < j ∧ j' = j + 1 ∧ 0 < x0) (hs : iv_ x0 s = x0 + j) (hd : ∀ m : Nat, m < 90 → (m : Int) ≠ s → ¬ (x0 + j ≤ iv_ x0 m ∧ iv_ x0 m < x0 + j + 1)) : up_ (zr_ (px_ c f v x0 j) (x0 + j)) x0 s (x0 + j) = px_ c f v x0 j' := by
  rw [zr_nx (c := c) hz]
  exact px_c h20 ⟨hj.1, by decide, hj.2.1, hj.2.2⟩ hs hd
/-! Plan, at 189 -/
def c4_ (a k : Int) : Int := if a = 190 then 0 else iv_ a k
theorem arr0 (h : 20 ≤ ty_ a ∧ ty_ a < 24) (h2 : a ≠ 190) (k : Int) : c4_ a k = 0 := by
  unfold c4_
  rw [if_neg h2, iv_arr h]
theorem tO_189 : ∀ j : Int, 0 ≤ j → j < 8 → tO_ (189 + 11 + 75 * j) := by
  have h : ∀ j : Nat, j < 8 → (tyq_ (200 + 75 * j) = 10 ∧ lnq_ (200 + 75 * j) = 0) ∧ (tyq_ (200 + 75 * j + 1) = 20 ∧ lnq_ (200 + 75 * j + 1) = 4) ∧ (tyq_ (200 + 75 * j + 2) = 26 ∧ lnq_ (200 + 75 * j + 2) = 34) ∧ (tyq_ (200 + 75 * j + 3) = 20 ∧ lnq_ (200 + 75 * j + 3) = 34) := by decide +kernel
  have h' : ∀ j : Nat, j < 8 → (tyq_ (200 + 75 * j + 4) = 20 ∧ lnq_ (200 + 75 * j + 4) = 1156) ∧ (tyq_ (200 + 75 * j + 5) = 20 ∧ lnq_ (200 + 75 * j + 5) = 6) ∧ (tyq_ (200 + 75 * j + 6) = 20 ∧ lnq_ (200 + 75 * j + 6) = 12) := by decide +kernel
  have h2 : ∀ j : Nat, j < 8 → ∀ i : Nat, i < 34 → (tyq_ (200 + 75 * j + 7 + 2 * i) = 1 ∧ lnq_ (200 + 75 * j + 7 + 2 * i) = 0) ∧ tyq_ (200 + 75 * j + 7 + 2 * i + 1) = 8 ∧ lnq_ (200 + 75 * j + 7 + 2 * i + 1) = 0 := by decide +kernel
  intro j j0 j1
  obtain ⟨a1, a2, a3, a4⟩ := h j.toNat (by omega)
  obtain ⟨a5, a6, a7⟩ := h' j.toNat (by omega)
  have T : ∀ m : Nat, ((189 : Int) + 11 + 75 * j + (m : Int)).toNat = 200 + 75 * j.toNat + m := fun m => by omega
  have T0 : ((189 : Int) + 11 + 75 * j).toNat = 200 + 75 * j.toNat := by omega
  have T' : ∀ (m : Nat) (x : Int), x = (m : Int) → ((189 : Int) + 11 + 75 * j + x).toNat = 200 + 75 * j.toNat + m := fun m x hx => by omega
  unfold tO_ ty_ ln_
  rw [T0, T' 1 1 rfl, T' 2 2 rfl, T' 3 3 rfl, T' 4 4 rfl, T' 5 5 rfl, T' 6 6 rfl]
  refine ⟨a1.1, a1.2, a2, a3, a4, a5, a6, a7, fun i i0 i1 => ?_⟩
  have := h2 j.toNat (by omega) i.toNat (by omega)
  rw [show ((189 : Int) + 11 + 75 * j + 7 + 2 * i).toNat = 200 + 75 * j.toNat + 7 + 2 * i.toNat by omega, show ((189 : Int) + 11 + 75 * j + 7 + 2 * i + 1).toNat = 200 + 75 * j.toNat + 7 + 2 * i.toNat + 1 by omega]
  exact this
theorem X4_189 (v : V_) : fX4_init 189 (zr_ v 189) = some (0, nw_ v 189 800) := by
  have t : ty_ 189 = 4 := by decide +kernel
  have t20 : ty_ 189 < 20 := by rw [t]; decide
  unfold fX4_init
  rw [px_0 (c := c4_) (x0 := 189) (v := v)]
  rw [ck_t (by decide +kernel), px_z (j' := 2) (fun k => if_pos rfl) t20 (by decide) (by decide +kernel) (by decide +kernel), lt_d]
  rw [ck_t (by decide +kernel), px_z (j' := 3) (arr0 (by decide +kernel) (by decide)) t20 (by decide) (by decide +kernel) (by decide +kernel), lt_d]
  rw [ck_t (by decide +kernel), px_z (j' := 4) (arr0 (by decide +kernel) (by decide)) t20 (by decide) (by decide +kernel) (by decide +kernel), lt_d]
  rw [ck_t (by decide +kernel), px_z (j' := 5) (arr0 (by decide +kernel) (by decide)) t20 (by decide) (by decide +kernel) (by decide +kernel), lt_d]
  rw [ck_t (by decide +kernel), X2_init_e _ (by decide +kernel) (by decide +kernel) (by decide +kernel) (by decide +kernel) (by decide +kernel) (by decide +kernel), bd_s]
  try dsimp only
  rw [nw_nx (c := c4_) (fun a h1 h2 k => if_neg (by omega)), px_c (n := 6) (j' := 11) t20 (by decide) (by decide +kernel) (by decide +kernel), lt_d]
  have e : px_ c4_ (fun _ => 0) v 189 11 = tp_ v 189 0 := by
    funext a k
    unfold px_ tp_ c4_
    by_cases h : a = 189
    · rw [if_pos h, if_neg (show ¬ a = 189 + 1 by omega), nw_i (by omega), h]
      by_cases h2 : 189 < iv_ 189 k ∧ iv_ 189 k < 189 + 11
      · rw [if_pos h2]
      · rw [if_neg h2]
        exact (iv_all (x0 := 189) (P := fun k y => ¬ (189 < y ∧ y < 189 + 11) → y = 0) t20 (by decide +kernel) (fun _ _ => rfl) k h2).symm
    · rw [if_neg h]
      by_cases h1 : a = 190
      · rw [if_pos (by omega), if_pos h1, if_pos (by omega), if_neg (by omega)]
      · rw [if_neg (show ¬ a = 189 + 1 by omega)]
        by_cases h2 : 189 < a ∧ a < 189 + 11
        · rw [if_pos h2, if_neg h1, nw_i (by omega)]
        · rw [if_neg h2, nw_o (by omega)]
  rw [e]
  have := X4_loop v (x0 := 189) t (by decide +kernel) tO_189 8 fu_ 0 (by decide) (by decide) (by unfold fu_; omega)
  exact this
end CLS
