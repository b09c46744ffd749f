/-! layer 2: the constructor of Trace -/
theorem oN10 : ∀ n : Nat, n < 90 → ¬ (n = 0 ∨ n = 2 ∨ n = 12 ∨ n = 13 ∨ n = 14 ∨ n = 15) → ofO_ 10 n = none := by decide
theorem iv_26 {a k : Int} (h : ty_ a = 26) (hn : ln_ a = 34) : iv_ a k = if 0 ≤ k ∧ k < 34 then a + 5 + 2 * k else 0 := by
  unfold iv_ of_ ofA_
  by_cases c : 0 ≤ k
  · rw [if_pos c, h, if_neg (by decide), hn]
    by_cases d : k < 34
    · rw [if_neg (by omega), if_neg (by decide), if_pos rfl, if_pos ⟨c, d⟩]
      dsimp only
      omega
    · rw [if_pos (by omega), if_neg (fun q => d q.2)]
  · rw [if_neg c, if_neg (fun q => c q.1)]
def tm_ (v : V_) (x0 j : Int) : V_ := fun a k => if a = x0 + 2 then (if 0 ≤ k ∧ k < j then x0 + 7 + 2 * k else 0) else nw_ v x0 (x0 + 7 + 2 * j) a k
theorem X10_loop (v : V_) {x0 : Int} (h0 : ty_ x0 = 10) (h2 : ty_ (x0 + 2) = 26 ∧ ln_ (x0 + 2) = 34) (hi : ∀ j : Int, 0 ≤ j → j < 34 → (ty_ (x0 + 7 + 2 * j) = 1 ∧ ln_ (x0 + 7 + 2 * j) = 0) ∧ ty_ (x0 + 7 + 2 * j + 1) = 8 ∧ ln_ (x0 + 7 + 2 * j + 1) = 0) : ∀ (d n : Nat) (j : Int), 0 ≤ j → 34 = j + d → d < n → fX10_init_55 n x0 j (x0 + 7 + 2 * j) (tm_ v x0 j) = some (0, nw_ v x0 (x0 + 75)) := by
  have g : ∀ j, 0 ≤ j → tm_ v x0 j x0 2 = x0 + 2 := fun j hj => by
    unfold tm_
    rw [if_neg (by omega), nw_i (by omega), iv_some (o := 2) (by omega) (by decide) (by rw [h0]; rfl)]
  intro d
  induction d with
  | zero =>
    intro n j j0 hd hn
    obtain ⟨n, rfl⟩ : ∃ m, n = m + 1 := ⟨n - 1, by omega⟩
    rw [fX10_init_55, ck_t ⟨g j j0, h2, by omega⟩, if_pos (by omega), ck_t (by omega)]
    congr 2
    funext a k
    unfold tm_
    have ej : j = 34 := by omega
    by_cases c : a = x0 + 2
    · subst c
      rw [if_pos rfl, nw_i (by omega), iv_26 h2.1 h2.2, ej]
      split <;> omega
    · rw [if_neg c, ej, show x0 + 7 + 2 * (34 : Int) = x0 + 75 by omega]
  | succ d ih =>
    intro n j j0 hd hn
    obtain ⟨n, rfl⟩ : ∃ m, n = m + 1 := ⟨n - 1, by omega⟩
    obtain ⟨i1, i2⟩ := hi j j0 (by omega)
    rw [fX10_init_55, ck_t ⟨g j j0, h2, by omega⟩, if_neg (by omega), ck_t (by omega), ck_t ⟨g j j0, h2, by omega⟩, ck_t i1, X1_init_e _ i1.1 i2, bd_s, ck_t (by omega), lt_d, lt_d, wr_id (by omega)]
    have e : up_ (nw_ (tm_ v x0 j) (x0 + 7 + 2 * j) (x0 + 7 + 2 * j + 2)) (x0 + 2) j (x0 + 7 + 2 * j) = tm_ v x0 (j + 1) := by
      funext a k
      unfold tm_
      by_cases c : a = x0 + 2
      · subst c
        rw [if_pos rfl]
        by_cases ck : k = j
        · rw [up_s ⟨rfl, ck⟩, if_pos (by omega)]
          omega
        · rw [up_n (fun q => ck q.2), nw_o (by omega), if_pos rfl]
          by_cases c3 : 0 ≤ k ∧ k < j
          · rw [if_pos c3, if_pos (by omega)]
          · rw [if_neg c3, if_neg (by omega)]
      · rw [up_n (fun q => c q.1), if_neg c]
        by_cases c4 : x0 + 7 + 2 * j ≤ a ∧ a < x0 + 7 + 2 * j + 2
        · rw [nw_i c4, nw_i (by omega)]
        · rw [nw_o c4, if_neg c]
          by_cases c5 : x0 ≤ a ∧ a < x0 + 7 + 2 * j
          · rw [nw_i c5, nw_i (by omega)]
          · rw [nw_o c5, nw_o (by omega)]
    have t := ih n (j + 1) (by omega) (by omega) (by omega)
    rw [show x0 + 7 + 2 * (j + 1) = x0 + 7 + 2 * j + 2 by omega, ← e] at t
    exact t
theorem X10_init_e (v : V_) {x0 : Int} (h0 : ty_ x0 = 10) (h1 : ty_ (x0 + 1) = 20 ∧ ln_ (x0 + 1) = 4) (h2 : ty_ (x0 + 2) = 26 ∧ ln_ (x0 + 2) = 34) (h3 : ty_ (x0 + 3) = 20 ∧ ln_ (x0 + 3) = 34) (h4 : ty_ (x0 + 4) = 20 ∧ ln_ (x0 + 4) = 1156) (h5 : ty_ (x0 + 5) = 20 ∧ ln_ (x0 + 5) = 6) (h6 : ty_ (x0 + 6) = 20 ∧ ln_ (x0 + 6) = 12) (hi : ∀ j : Int, 0 ≤ j → j < 34 → (ty_ (x0 + 7 + 2 * j) = 1 ∧ ln_ (x0 + 7 + 2 * j) = 0) ∧ ty_ (x0 + 7 + 2 * j + 1) = 8 ∧ ln_ (x0 + 7 + 2 * j + 1) = 0) : fX10_init x0 (zr_ v x0) = some (0, nw_ v x0 (x0 + 75)) := by
  unfold fX10_init
  rw [ck_t h1, lt_d, ck_t h2, lt_d, ck_t h3, lt_d, ck_t h4, lt_d, ck_t h5, lt_d, ck_t h6, lt_d]
  have t := X10_loop v h0 h2 hi 34 fu_ 0 (by decide) (by decide) (by decide)
  rw [show x0 + 7 + 2 * (0 : Int) = x0 + 7 by omega] at t
  rw [← t]
  congr 1
  funext a k
  unfold tm_
  by_cases c0 : a = x0
  · subst c0
    rw [if_neg (by omega), nw_i (by omega)]
    by_cases k0 : k = 0
    · subst k0
      rw [iv_some (o := 1) (by omega) (by decide) (by rw [h0]; rfl)]
      simp (disch := omega) only [up_s, up_n, zr_n, zr_s]
    by_cases k2 : k = 2
    · subst k2
      rw [iv_some (o := 2) (by omega) (by decide) (by rw [h0]; rfl)]
      simp (disch := omega) only [up_s, up_n, zr_n, zr_s]
    by_cases k12 : k = 12
    · subst k12
      rw [iv_some (o := 3) (by omega) (by decide) (by rw [h0]; rfl)]
      simp (disch := omega) only [up_s, up_n, zr_n, zr_s]
    by_cases k13 : k = 13
    · subst k13
      rw [iv_some (o := 4) (by omega) (by decide) (by rw [h0]; rfl)]
      simp (disch := omega) only [up_s, up_n, zr_n, zr_s]
    by_cases k14 : k = 14
    · subst k14
      rw [iv_some (o := 5) (by omega) (by decide) (by rw [h0]; rfl)]
      simp (disch := omega) only [up_s, up_n, zr_n, zr_s]
    by_cases k15 : k = 15
    · subst k15
      rw [iv_some (o := 6) (by omega) (by decide) (by rw [h0]; rfl)]
      simp (disch := omega) only [up_s, up_n, zr_n, zr_s]
    rw [iv_none (by omega) (fun hk => by rw [h0]; exact ofO_cl oN10 (by omega))]
    simp (disch := omega) only [up_s, up_n, zr_n, zr_s]
  by_cases c2 : a = x0 + 2
  · subst c2
    rw [if_pos rfl, if_neg (by omega)]
    simp (disch := omega) only [up_s, up_n, zr_n, zr_s]
  rw [if_neg c2]
  by_cases c1 : a = x0 + 1
  · subst c1
    rw [nw_i (by omega), iv_arr (by omega)]
    simp (disch := omega) only [up_s, up_n, zr_n, zr_s]
  by_cases c3 : a = x0 + 3
  · subst c3
    rw [nw_i (by omega), iv_arr (by omega)]
    simp (disch := omega) only [up_s, up_n, zr_n, zr_s]
  by_cases c4 : a = x0 + 4
  · subst c4
    rw [nw_i (by omega), iv_arr (by omega)]
    simp (disch := omega) only [up_s, up_n, zr_n, zr_s]
  by_cases c5 : a = x0 + 5
  · subst c5
    rw [nw_i (by omega), iv_arr (by omega)]
    simp (disch := omega) only [up_s, up_n, zr_n, zr_s]
  by_cases c6 : a = x0 + 6
  · subst c6
    rw [nw_i (by omega), iv_arr (by omega)]
    simp (disch := omega) only [up_s, up_n, zr_n, zr_s]
  rw [nw_o (by omega)]
  simp (disch := omega) only [up_s, up_n, zr_n, zr_s]
