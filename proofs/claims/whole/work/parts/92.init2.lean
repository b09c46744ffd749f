/-! layer 2: constructors of Item and History -/
theorem oN8 : ∀ n : Nat, n < 90 → True → ofO_ 8 n = none := by decide
theorem oN1 : ∀ n : Nat, n < 90 → n ≠ 0 → ofO_ 1 n = none := by decide
theorem oN0 : ∀ n : Nat, n < 90 → ¬ (n = 0 ∨ n = 1 ∨ n = 2) → ofO_ 0 n = none := by decide
theorem iv_X8 {a k : Int} (h : ty_ a = 8) : iv_ a k = 0 := iv_none (by omega) (fun hk => by rw [h]; exact ofO_cl oN8 trivial)
theorem X1_init_e (v : V_) {x0 : Int} (h0 : ty_ x0 = 1) (h1 : ty_ (x0 + 1) = 8 ∧ ln_ (x0 + 1) = 0) : fX1_init x0 (zr_ v x0) = some (0, nw_ v x0 (x0 + 2)) := by
  unfold fX1_init fX8_init
  rw [ck_t h1, bd_s, lt_d]
  congr 2
  funext a k
  by_cases c0 : a = x0
  · subst c0
    rw [nw_i (by omega)]
    by_cases k0 : k = 0
    · subst k0
      rw [iv_some (o := 1) (by omega) (by decide) (by rw [h0]; rfl)]
      simp (disch := omega) only [up_s, up_n, zr_n, zr_s]
    rw [iv_none (by omega) (fun hk => by rw [h0]; exact ofO_cl oN1 (by omega))]
    simp (disch := omega) only [up_s, up_n, zr_n, zr_s]
  by_cases c1 : a = x0 + 1
  · subst c1
    rw [nw_i (by omega), iv_X8 (by omega)]
    simp (disch := omega) only [up_s, up_n, zr_n, zr_s]
  rw [nw_o (by omega)]
  simp (disch := omega) only [up_s, up_n, zr_n, zr_s]
theorem iv_24 {a k : Int} {n : Nat} (h : ty_ a = 24) (hn : ln_ a = n) : iv_ a k = if 0 ≤ k ∧ k < (n : Int) then a + 1 + k else 0 := by
  unfold iv_ of_ ofA_
  by_cases c : 0 ≤ k
  · rw [if_pos c, h, if_neg (by decide), hn]
    by_cases d : k < (n : Int)
    · rw [if_neg (by omega), if_neg (by decide), if_neg (by decide), if_neg (by decide), if_pos rfl, if_pos ⟨c, d⟩]
      dsimp only
      omega
    · rw [if_pos (by omega), if_neg (fun q => d q.2)]
  · rw [if_neg c, if_neg (fun q => c q.1)]
theorem mz_1 {v : V_} {a : Int} {N : Nat} {b j : Int} (h : b = a) : mz_ v a N b j = if 0 ≤ j ∧ j < (N : Int) then a + 1 + j else 0 := if_pos h
theorem mz_2 {v : V_} {a : Int} {N : Nat} {b j : Int} (h : a < b ∧ b ≤ a + (N : Int)) : mz_ v a N b j = 0 := by
  unfold mz_
  rw [if_neg (by omega), if_pos h]
theorem mz_3 {v : V_} {a : Int} {N : Nat} {b j : Int} (h : b < a ∨ a + (N : Int) < b) : mz_ v a N b j = v b j := by
  unfold mz_
  rw [if_neg (by omega), if_neg (by omega)]
theorem X0_init_e (v : V_) {x0 : Int} (h0 : ty_ x0 = 0) (h1 : (ty_ (x0 + 1) = 24 ∧ ln_ (x0 + 1) = 40) ∧ ∀ j : Nat, j < 40 → ty_ (x0 + 1 + 1 + (j : Int)) = 20 ∧ ln_ (x0 + 1 + 1 + (j : Int)) = 47) (h42 : (ty_ (x0 + 42) = 24 ∧ ln_ (x0 + 42) = 3) ∧ ∀ j : Nat, j < 3 → ty_ (x0 + 42 + 1 + (j : Int)) = 20 ∧ ln_ (x0 + 42 + 1 + (j : Int)) = 47) (h46 : ty_ (x0 + 46) = 23 ∧ ln_ (x0 + 46) = 3) : fX0_init x0 (zr_ v x0) = some (0, nw_ v x0 (x0 + 47)) := by
  unfold fX0_init
  rw [ck_t h1, lt_d, ck_t h42, lt_d, ck_t h46, lt_d]
  congr 2
  funext a k
  by_cases c0 : a = x0
  · subst c0
    rw [nw_i (by omega)]
    by_cases k0 : k = 0
    · subst k0
      rw [iv_some (o := 1) (by omega) (by decide) (by rw [h0]; rfl)]
      simp (disch := omega) only [up_s, up_n, zr_n, zr_s, mz_3]
    by_cases k1 : k = 1
    · subst k1
      rw [iv_some (o := 42) (by omega) (by decide) (by rw [h0]; rfl)]
      simp (disch := omega) only [up_s, up_n, zr_n, zr_s, mz_3]
    by_cases k2 : k = 2
    · subst k2
      rw [iv_some (o := 46) (by omega) (by decide) (by rw [h0]; rfl)]
      simp (disch := omega) only [up_s, up_n, zr_n, zr_s, mz_3]
    rw [iv_none (by omega) (fun hk => by rw [h0]; exact ofO_cl oN0 (by omega))]
    simp (disch := omega) only [up_s, up_n, zr_n, zr_s, mz_3]
  by_cases c1 : a = x0 + 1
  · subst c1
    rw [nw_i (by omega), iv_24 h1.1.1 h1.1.2]
    simp (disch := omega) only [up_n, zr_n, mz_3, mz_1]
  by_cases c2 : x0 + 1 < a ∧ a ≤ x0 + 41
  · obtain ⟨j, hj, rfl⟩ : ∃ j : Nat, j < 40 ∧ a = x0 + 1 + 1 + (j : Int) := ⟨(a - x0 - 2).toNat, by omega, by omega⟩
    have t := (h1.2 j hj).1
    rw [nw_i (by omega), iv_arr (by omega)]
    simp (disch := omega) only [up_n, zr_n, mz_3, mz_2]
  by_cases c3 : a = x0 + 42
  · subst c3
    rw [nw_i (by omega), iv_24 h42.1.1 h42.1.2]
    simp (disch := omega) only [up_n, zr_n, mz_1]
  by_cases c4 : x0 + 42 < a ∧ a ≤ x0 + 45
  · obtain ⟨j, hj, rfl⟩ : ∃ j : Nat, j < 3 ∧ a = x0 + 42 + 1 + (j : Int) := ⟨(a - x0 - 43).toNat, by omega, by omega⟩
    have t := (h42.2 j hj).1
    rw [nw_i (by omega), iv_arr (by omega)]
    simp (disch := omega) only [up_n, zr_n, mz_2]
  by_cases c5 : a = x0 + 46
  · subst c5
    rw [nw_i (by omega), iv_arr (by omega)]
    simp (disch := omega) only [up_n, zr_s]
  rw [nw_o (by omega)]
  simp (disch := omega) only [up_n, zr_n, mz_3]
