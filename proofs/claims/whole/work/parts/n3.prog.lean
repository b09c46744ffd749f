/-! layer 2: the class's constructors: programs -/
/-- the words while the class makes them -/
def ws_ : Nat → Int × (Int → Int)
  | 0 => (0, fun _ => 0)
  | n + 1 => if sb_ (n : Int) = 32 then ((ws_ n).1 + 1, (ws_ n).2) else ((ws_ n).1, fun k => if k = (ws_ n).1 then wl_ (wl_ ((ws_ n).2 k * 32) + wr_ (wr_ (sb_ (n : Int) - 97) + 1)) else (ws_ n).2 k)
/-- what a new TraceDesk holds, its row aside -/
def c11_ (a k : Int) : Int := if a = 5 then (ws_ 67).2 k else if (a = 18 ∨ a = 82) ∧ 0 ≤ k ∧ k < 4 then 1 else if (a = 19 ∨ a = 83) ∧ 0 ≤ k ∧ k < 4 then lq4_ k else iv_ a k
def te_ (v : V_) (x0 i j : Int) : V_ := fun a k => if a = x0 + 2 then (if 0 ≤ k ∧ k < i then x0 + 8 + k else 0) else if a = x0 + 3 then (if 0 ≤ k ∧ k < j then x0 + 56 + k else 0) else nw_ v x0 (x0 + 8 + i + j) a k
def c5_ (x0 a k : Int) : Int := if a = x0 + 2 ∨ a = x0 + 3 then 0 else iv_ a k
section PRG
variable {u v : V_} {x0 a k : Int}
theorem oZ8 : ∀ n : Nat, n < 90 → ofO_ 8 n = none := by decide
theorem iv_8 (h : ty_ a = 8) : iv_ a k = 0 := iv_none (by omega) fun hk => by
  rw [h]
  by_cases c : k.toNat < 90
  · exact oZ8 _ c
  · exact ofO_big (by omega)
theorem iv_25a (h : ty_ a = 25) (hn : ln_ a = 48) : iv_ a k = if 0 ≤ k ∧ k < 48 then a + 6 + k else 0 := by
  unfold iv_ of_ ofA_
  by_cases c : 0 ≤ k
  · rw [if_pos c, h, if_neg (by decide), hn]
    by_cases d : k < 48
    · rw [if_neg (show ¬ 48 ≤ k.toNat by omega), if_pos rfl, if_pos rfl, if_pos ⟨c, d⟩]
      try dsimp only
      omega
    · rw [if_pos (show 48 ≤ k.toNat by omega), if_neg (fun q => d q.2)]
  · rw [if_neg c, if_neg (fun q => c q.1)]
theorem iv_25b (h : ty_ a = 25) (hn : ln_ a = 8) : iv_ a k = if 0 ≤ k ∧ k < 8 then a + 53 + k else 0 := by
  unfold iv_ of_ ofA_
  by_cases c : 0 ≤ k
  · rw [if_pos c, h, if_neg (by decide), hn]
    by_cases d : k < 8
    · rw [if_neg (show ¬ 8 ≤ k.toNat by omega), if_pos rfl, if_neg (by decide), if_pos ⟨c, d⟩]
      try dsimp only
      omega
    · rw [if_pos (show 8 ≤ k.toNat by omega), if_neg (fun q => d q.2)]
  · rw [if_neg c, if_neg (fun q => c q.1)]
def tP_ (x0 : Int) : Prop := ty_ x0 = 5 ∧ (ty_ (x0 + 2) = 25 ∧ ln_ (x0 + 2) = 48) ∧ (ty_ (x0 + 3) = 25 ∧ ln_ (x0 + 3) = 8) ∧ iv_ x0 2 = x0 + 2 ∧ iv_ x0 3 = x0 + 3 ∧ ∀ i : Int, 0 ≤ i → i < 56 → ty_ (x0 + 8 + i) = 8 ∧ ln_ (x0 + 8 + i) = 0
theorem tP_12 : tP_ 12 := by
  have h : ∀ i : Nat, i < 56 → tyq_ (20 + i) = 8 ∧ lnq_ (20 + i) = 0 := by decide +kernel
  refine ⟨by decide +kernel, by decide +kernel, by decide +kernel, by decide +kernel, by decide +kernel, fun i i0 i1 => ?_⟩
  have := h i.toNat (by omega)
  unfold ty_ ln_
  rw [show ((12 : Int) + 8 + i).toNat = 20 + i.toNat by omega]
  exact this
theorem tP_76 : tP_ 76 := by
  have h : ∀ i : Nat, i < 56 → tyq_ (84 + i) = 8 ∧ lnq_ (84 + i) = 0 := by decide +kernel
  refine ⟨by decide +kernel, by decide +kernel, by decide +kernel, by decide +kernel, by decide +kernel, fun i i0 i1 => ?_⟩
  have := h i.toNat (by omega)
  unfold ty_ ln_
  rw [show ((76 : Int) + 8 + i).toNat = 84 + i.toNat by omega]
  exact this
theorem te_x (hT : tP_ x0) {i j : Int} (h : 0 ≤ i ∧ 0 ≤ j) : te_ v x0 i j x0 2 = x0 + 2 ∧ te_ v x0 i j x0 3 = x0 + 3 := by
  unfold te_
  rw [if_neg (by omega), if_neg (by omega), if_neg (by omega), if_neg (by omega), nw_i (by omega), nw_i (by omega)]
  exact ⟨hT.2.2.2.1, hT.2.2.2.2.1⟩
theorem te_i (hT : tP_ x0) {i : Int} (h : 0 ≤ i ∧ i < 48) : up_ (zr_ (te_ v x0 i 0) (x0 + 8 + i)) (x0 + 2) i (x0 + 8 + i) = te_ v x0 (i + 1) 0 := by
  funext a k
  have t := (hT.2.2.2.2.2 i h.1 (by omega)).1
  unfold te_
  by_cases c : a = x0 + 2
  · rw [if_pos c]
    by_cases d : k = i
    · rw [up_s ⟨c, d⟩, if_pos (by omega)]
      omega
    · rw [up_n (fun q => d q.2), zr_n (by omega)]
      try dsimp only
      rw [if_pos c]
      by_cases e : 0 ≤ k ∧ k < i
      · rw [if_pos e, if_pos (by omega)]
      · rw [if_neg e, if_neg (by omega)]
  · rw [if_neg c, up_n (fun q => c q.1)]
    by_cases d : a = x0 + 8 + i
    · rw [zr_s d, if_neg (by omega), nw_i (by omega), d, iv_8 t]
    · rw [zr_n d]
      try dsimp only
      rw [if_neg c]
      by_cases e : a = x0 + 3
      · rw [if_pos e, if_pos e]
      · rw [if_neg e, if_neg e]
        by_cases g : x0 ≤ a ∧ a < x0 + 8 + i + 0
        · rw [nw_i g, nw_i (by omega)]
        · rw [nw_o g, nw_o (by omega)]
theorem te_j (hT : tP_ x0) {j : Int} (h : 0 ≤ j ∧ j < 8) : up_ (zr_ (te_ v x0 48 j) (x0 + 56 + j)) (x0 + 3) j (x0 + 56 + j) = te_ v x0 48 (j + 1) := by
  funext a k
  have t := (hT.2.2.2.2.2 (48 + j) (by omega) (by omega)).1
  rw [show x0 + 8 + (48 + j) = x0 + 56 + j by omega] at t
  unfold te_
  by_cases c : a = x0 + 2
  · rw [if_pos c, up_n (by omega), zr_n (by omega)]
    try dsimp only
    rw [if_pos c]
  · rw [if_neg c]
    by_cases c3 : a = x0 + 3
    · rw [if_pos c3]
      by_cases d : k = j
      · rw [up_s ⟨c3, d⟩, if_pos (by omega)]
        omega
      · rw [up_n (fun q => d q.2), zr_n (by omega)]
        try dsimp only
        rw [if_neg c, if_pos c3]
        by_cases e : 0 ≤ k ∧ k < j
        · rw [if_pos e, if_pos (by omega)]
        · rw [if_neg e, if_neg (by omega)]
    · rw [if_neg c3, up_n (fun q => c3 q.1)]
      by_cases d : a = x0 + 56 + j
      · rw [zr_s d, nw_i (by omega), d, iv_8 t]
      · rw [zr_n d]
        try dsimp only
        rw [if_neg c, if_neg c3]
        by_cases g : x0 ≤ a ∧ a < x0 + 8 + 48 + j
        · rw [nw_i g, nw_i (by omega)]
        · rw [nw_o g, nw_o (by omega)]
theorem te_e (hT : tP_ x0) : te_ v x0 48 8 = nw_ v x0 (x0 + 64) := by
  funext a k
  unfold te_
  by_cases c : a = x0 + 2
  · rw [if_pos c, nw_i (by omega), c, iv_25a hT.2.1.1 hT.2.1.2]
    by_cases d : 0 ≤ k ∧ k < 48
    · rw [if_pos d, if_pos d]
      omega
    · rw [if_neg d, if_neg d]
  · rw [if_neg c]
    by_cases c3 : a = x0 + 3
    · rw [if_pos c3, nw_i (by omega), c3, iv_25b hT.2.2.1.1 hT.2.2.1.2]
      by_cases d : 0 ≤ k ∧ k < 8
      · rw [if_pos d, if_pos d]
        omega
      · rw [if_neg d, if_neg d]
    · rw [if_neg c3]
      by_cases g : x0 ≤ a ∧ a < x0 + 64
      · rw [nw_i (by omega), nw_i g]
      · rw [nw_o (by omega), nw_o g]
theorem X5_loop (hp : x0 = 12 ∨ x0 = 76) (hT : tP_ x0) (hC : Cl_ (fun a => x0 ≤ a ∧ a < x0 + 64) (x0 + 64)) (v : V_) : ∃ u, fX5_init_62 fu_ x0 0 (x0 + 8) (te_ v x0 0 0) = some (0, u) ∧ u = nx_ c11_ v x0 (x0 + 64) := by
  have L1 : ∀ (d n : Nat) (i : Int), 0 ≤ i → 48 = i + d → d < n → fX5_init_62 n x0 i (x0 + 8 + i) (te_ v x0 i 0) = fX5_init_92 fu_ x0 0 (x0 + 56) (te_ v x0 48 0) := by
    intro d
    induction d with
    | zero =>
      intro n i i0 hd hn
      obtain ⟨n, rfl⟩ : ∃ m, n = m + 1 := ⟨n - 1, by omega⟩
      have ei : i = 48 := by omega
      subst ei
      rw [fX5_init_62, ck_t ⟨(te_x hT (by omega)).1, hT.2.1, by omega⟩, if_pos (by decide), show x0 + 8 + 48 = x0 + 56 by omega]
    | succ d ih =>
      intro n i i0 hd hn
      obtain ⟨n, rfl⟩ : ∃ m, n = m + 1 := ⟨n - 1, by omega⟩
      have g := (te_x (v := v) hT (show 0 ≤ i ∧ (0 : Int) ≤ 0 by omega)).1
      rw [fX5_init_62, ck_t ⟨g, hT.2.1, by omega⟩, if_neg (by omega), ck_t (by omega), ck_t ⟨g, hT.2.1, by omega⟩, ck_t (hT.2.2.2.2.2 i i0 (by omega)), fX8_init, bd_s, ck_t (by omega), wr_id (by omega), lt_d, lt_d]
      try dsimp only
      rw [te_i hT ⟨i0, by omega⟩, show x0 + 8 + i + 1 = x0 + 8 + (i + 1) by omega]
      exact ih n (i + 1) (by omega) (by omega) (by omega)
  have L2 : ∀ (d n : Nat) (j : Int), 0 ≤ j → 8 = j + d → d < n → ∃ u, fX5_init_92 n x0 j (x0 + 56 + j) (te_ v x0 48 j) = some (0, u) ∧ u = nx_ c11_ v x0 (x0 + 64) := by
    intro d
    induction d with
    | zero =>
      intro n j j0 hd hn
      obtain ⟨n, rfl⟩ : ∃ m, n = m + 1 := ⟨n - 1, by omega⟩
      have ej : j = 8 := by omega
      subst ej
      have g := (te_x (v := v) hT (show (0 : Int) ≤ 48 ∧ (0 : Int) ≤ 8 by omega)).2
      rw [fX5_init_92, ck_t ⟨g, hT.2.2.1, by omega⟩, if_pos (by decide), ck_t (by omega), te_e hT, show x0 + 56 + 8 = x0 + 64 by omega]
      have S : Sc_ x0 (x0 + 64) (nw_ v x0 (x0 + 64)) := ⟨hC, St_iv _ fun a ha k o _ => nw_i ha⟩
      obtain ⟨u, a1, a2, a3, a4⟩ := anew_e (v := nw_ v x0 (x0 + 64)) hp
      rw [ckp_t S, a1, bd_s, ck_t (by omega)]
      refine ⟨u, rfl, ?_⟩
      funext a k
      have c0 : iv_ x0 0 = 0 := by rcases hp with rfl | rfl <;> decide +kernel
      by_cases q : x0 ≤ a ∧ a < x0 + 64
      · rw [nx_i q]
        unfold c11_
        rw [if_neg (show ¬ a = 5 by omega)]
        by_cases q6 : a = x0 + 6 ∧ 0 ≤ k ∧ k < 4
        · rw [if_pos (by omega), q6.1, (a4 k q6.2.1 q6.2.2).1]
        · rw [if_neg (by omega)]
          by_cases q7 : a = x0 + 7 ∧ 0 ≤ k ∧ k < 4
          · rw [if_pos (by omega), q7.1, (a4 k q7.2.1 q7.2.2).2]
          · rw [if_neg (by omega)]
            by_cases q0 : a = x0 ∧ k = 0
            · rw [q0.1, q0.2, a3, c0]
            · rw [a2 a k q0 (by omega), nw_i q]
      · rw [nx_o q, a2 a k (by omega) (by omega), nw_o q]
    | succ d ih =>
      intro n j j0 hd hn
      obtain ⟨n, rfl⟩ : ∃ m, n = m + 1 := ⟨n - 1, by omega⟩
      have g := (te_x (v := v) hT (show (0 : Int) ≤ 48 ∧ (0 : Int) ≤ j by omega)).2
      have t := hT.2.2.2.2.2 (48 + j) (by omega) (by omega)
      rw [show x0 + 8 + (48 + j) = x0 + 56 + j by omega] at t
      rw [fX5_init_92, ck_t ⟨g, hT.2.2.1, by omega⟩, if_neg (by omega), ck_t (by omega), ck_t ⟨g, hT.2.2.1, by omega⟩, ck_t t, fX8_init, bd_s, ck_t (by omega), wr_id (by omega), lt_d, lt_d]
      try dsimp only
      rw [te_j hT ⟨j0, by omega⟩, show x0 + 56 + j + 1 = x0 + 56 + (j + 1) by omega]
      exact ih n (j + 1) (by omega) (by omega) (by omega)
  have e1 := L1 48 fu_ 0 (by decide) (by decide) (by unfold fu_; omega)
  rw [Int.add_zero] at e1
  obtain ⟨u, e2, e3⟩ := L2 8 fu_ 0 (by decide) (by decide) (by unfold fu_; omega)
  rw [Int.add_zero] at e2
  exact ⟨u, e1.trans e2, e3⟩
theorem X5_12 (v : V_) : fX5_init 12 (zr_ v 12) = some (0, nx_ c11_ v 12 76) := by
  have t20 : ty_ 12 < 20 := by decide +kernel
  have A : ∀ j : Int, (j = 1 ∨ (4 ≤ j ∧ j ≤ 7)) → ∀ k, c5_ 12 (12 + j) k = 0 := fun j hj k => by
    have t : ∀ m : Nat, m < 8 → m = 1 ∨ 4 ≤ m → tyq_ (12 + m) = 20 := by decide +kernel
    have := t j.toNat (by omega) (by omega)
    unfold c5_
    rw [if_neg (by omega), iv_arr]
    unfold ty_
    rw [show ((12 : Int) + j).toNat = 12 + j.toNat by omega, this]
    decide
  unfold fX5_init
  rw [px_0 (c := c5_ 12) (x0 := 12) (v := v)]
  rw [ck_t (by decide +kernel), px_z (j' := 2) (A 1 (by decide)) t20 (by decide) (by decide +kernel) (by decide +kernel), lt_d]
  rw [ck_t (by decide +kernel), px_z (j' := 3) (fun k => if_pos (by decide)) t20 (by decide) (by decide +kernel) (by decide +kernel), lt_d]
  rw [ck_t (by decide +kernel), px_z (j' := 4) (fun k => if_pos (by decide)) t20 (by decide) (by decide +kernel) (by decide +kernel), lt_d]
  rw [ck_t (by decide +kernel), px_z (j' := 5) (A 4 (by decide)) t20 (by decide) (by decide +kernel) (by decide +kernel), lt_d]
  rw [ck_t (by decide +kernel), px_z (j' := 6) (A 5 (by decide)) t20 (by decide) (by decide +kernel) (by decide +kernel), lt_d]
  rw [ck_t (by decide +kernel), px_z (j' := 7) (A 6 (by decide)) t20 (by decide) (by decide +kernel) (by decide +kernel), lt_d]
  rw [ck_t (by decide +kernel), px_z (j' := 8) (A 7 (by decide)) t20 (by decide) (by decide +kernel) (by decide +kernel), lt_d]
  have e : px_ (c5_ 12) (fun _ => 0) v 12 8 = te_ v 12 0 0 := by
    funext a k
    unfold px_ te_ c5_
    by_cases h : a = 12
    · rw [if_pos h, if_neg (show ¬ a = 12 + 2 by omega), if_neg (show ¬ a = 12 + 3 by omega), nw_i (by omega), h]
      by_cases h2 : 12 < iv_ 12 k ∧ iv_ 12 k < 12 + 8
      · rw [if_pos h2]
      · rw [if_neg h2]
        exact (iv_all (x0 := 12) (P := fun k y => ¬ (12 < y ∧ y < 12 + 8) → y = 0) t20 (by decide +kernel) (fun _ _ => rfl) k h2).symm
    · rw [if_neg h]
      by_cases h1 : a = 12 + 2
      · rw [if_pos (by omega), if_pos (by omega), if_pos h1, if_neg (by omega)]
      · rw [if_neg h1]
        by_cases h3 : a = 12 + 3
        · rw [if_pos (by omega), if_pos (by omega), if_pos h3, if_neg (by omega)]
        · rw [if_neg h3]
          by_cases h2 : 12 < a ∧ a < 12 + 8
          · rw [if_pos h2, if_neg (by omega), nw_i (by omega)]
          · rw [if_neg h2, nw_o (by omega)]
  rw [e]
  obtain ⟨u, e1, e2⟩ := X5_loop (x0 := 12) (by decide) tP_12 (Cl_rng (lo := 12) (hi := 76) (by decide) (by decide +kernel) (by decide +kernel) (by decide +kernel) (by decide +kernel) (by decide +kernel)) v
  rw [e2] at e1
  exact e1
theorem X5_76 (v : V_) : fX5_init 76 (zr_ v 76) = some (0, nx_ c11_ v 76 140) := by
  have t20 : ty_ 76 < 20 := by decide +kernel
  have A : ∀ j : Int, (j = 1 ∨ (4 ≤ j ∧ j ≤ 7)) → ∀ k, c5_ 76 (76 + j) k = 0 := fun j hj k => by
    have t : ∀ m : Nat, m < 8 → m = 1 ∨ 4 ≤ m → tyq_ (76 + m) = 20 := by decide +kernel
    have := t j.toNat (by omega) (by omega)
    unfold c5_
    rw [if_neg (by omega), iv_arr]
    unfold ty_
    rw [show ((76 : Int) + j).toNat = 76 + j.toNat by omega, this]
    decide
  unfold fX5_init
  rw [px_0 (c := c5_ 76) (x0 := 76) (v := v)]
  rw [ck_t (by decide +kernel), px_z (j' := 2) (A 1 (by decide)) t20 (by decide) (by decide +kernel) (by decide +kernel), lt_d]
  rw [ck_t (by decide +kernel), px_z (j' := 3) (fun k => if_pos (by decide)) t20 (by decide) (by decide +kernel) (by decide +kernel), lt_d]
  rw [ck_t (by decide +kernel), px_z (j' := 4) (fun k => if_pos (by decide)) t20 (by decide) (by decide +kernel) (by decide +kernel), lt_d]
  rw [ck_t (by decide +kernel), px_z (j' := 5) (A 4 (by decide)) t20 (by decide) (by decide +kernel) (by decide +kernel), lt_d]
  rw [ck_t (by decide +kernel), px_z (j' := 6) (A 5 (by decide)) t20 (by decide) (by decide +kernel) (by decide +kernel), lt_d]
  rw [ck_t (by decide +kernel), px_z (j' := 7) (A 6 (by decide)) t20 (by decide) (by decide +kernel) (by decide +kernel), lt_d]
  rw [ck_t (by decide +kernel), px_z (j' := 8) (A 7 (by decide)) t20 (by decide) (by decide +kernel) (by decide +kernel), lt_d]
  have e : px_ (c5_ 76) (fun _ => 0) v 76 8 = te_ v 76 0 0 := by
    funext a k
    unfold px_ te_ c5_
    by_cases h : a = 76
    · rw [if_pos h, if_neg (show ¬ a = 76 + 2 by omega), if_neg (show ¬ a = 76 + 3 by omega), nw_i (by omega), h]
      by_cases h2 : 76 < iv_ 76 k ∧ iv_ 76 k < 76 + 8
      · rw [if_pos h2]
      · rw [if_neg h2]
        exact (iv_all (x0 := 76) (P := fun k y => ¬ (76 < y ∧ y < 76 + 8) → y = 0) t20 (by decide +kernel) (fun _ _ => rfl) k h2).symm
    · rw [if_neg h]
      by_cases h1 : a = 76 + 2
      · rw [if_pos (by omega), if_pos (by omega), if_pos h1, if_neg (by omega)]
      · rw [if_neg h1]
        by_cases h3 : a = 76 + 3
        · rw [if_pos (by omega), if_pos (by omega), if_pos h3, if_neg (by omega)]
        · rw [if_neg h3]
          by_cases h2 : 76 < a ∧ a < 76 + 8
          · rw [if_pos h2, if_neg (by omega), nw_i (by omega)]
          · rw [if_neg h2, nw_o (by omega)]
  rw [e]
  obtain ⟨u, e1, e2⟩ := X5_loop (x0 := 76) (by decide) tP_76 (Cl_rng (lo := 76) (hi := 140) (by decide) (by decide +kernel) (by decide +kernel) (by decide +kernel) (by decide +kernel) (by decide +kernel)) v
  rw [e2] at e1
  exact e1
end PRG
