/-! layer 2: the constructor of Plan -/
theorem oN4 : ∀ n : Nat, n < 90 → ¬ (n = 2 ∨ n = 3 ∨ n = 4 ∨ n = 5 ∨ n = 6) → ofO_ 4 n = none := by decide
theorem iv_27 {a k : Int} (h : ty_ a = 27) (hn : ln_ a = 8) : iv_ a k = if 0 ≤ k ∧ k < 8 then a + 10 + 75 * k else 0 := by
  unfold iv_ of_ ofA_
  by_cases c : 0 ≤ k
  · rw [if_pos c, h, if_neg (by decide), hn]
    by_cases d : k < 8
    · rw [if_neg (by omega), if_neg (by decide), if_neg (by decide), if_pos rfl, if_pos ⟨c, d⟩]
      dsimp only
      omega
    · rw [if_pos (by omega), if_neg (fun q => d q.2)]
  · rw [if_neg c, if_neg (fun q => c q.1)]
def tO_ (x0 : Int) : Prop := ty_ x0 = 10 ∧ ln_ x0 = 0 ∧ (ty_ (x0 + 1) = 20 ∧ ln_ (x0 + 1) = 4) ∧ (ty_ (x0 + 2) = 26 ∧ ln_ (x0 + 2) = 34) ∧ (ty_ (x0 + 3) = 20 ∧ ln_ (x0 + 3) = 34) ∧ (ty_ (x0 + 4) = 20 ∧ ln_ (x0 + 4) = 1156) ∧ (ty_ (x0 + 5) = 20 ∧ ln_ (x0 + 5) = 6) ∧ (ty_ (x0 + 6) = 20 ∧ ln_ (x0 + 6) = 12) ∧ ∀ j : Int, 0 ≤ j → j < 34 → (ty_ (x0 + 7 + 2 * j) = 1 ∧ ln_ (x0 + 7 + 2 * j) = 0) ∧ ty_ (x0 + 7 + 2 * j + 1) = 8 ∧ ln_ (x0 + 7 + 2 * j + 1) = 0
def tp_ (v : V_) (x0 j : Int) : V_ := fun a k => if a = x0 + 1 then (if 0 ≤ k ∧ k < j then x0 + 11 + 75 * k else 0) else nw_ v x0 (x0 + 11 + 75 * j) a k
theorem X4_loop (v : V_) {x0 : Int} (h0 : ty_ x0 = 4) (h1 : ty_ (x0 + 1) = 27 ∧ ln_ (x0 + 1) = 8) (hi : ∀ j : Int, 0 ≤ j → j < 8 → tO_ (x0 + 11 + 75 * j)) : ∀ (d n : Nat) (j : Int), 0 ≤ j → 8 = j + d → d < n → fX4_init_49 n x0 j (x0 + 11 + 75 * j) (tp_ v x0 j) = some (0, nw_ v x0 (x0 + 611)) := by
  have g : ∀ j, 0 ≤ j → tp_ v x0 j x0 2 = x0 + 1 := fun j hj => by
    unfold tp_
    rw [if_neg (by omega), nw_i (by omega), iv_some (o := 1) (by omega) (by decide) (by rw [h0]; rfl)]
  intro d
  induction d with
  | zero =>
    intro n j j0 hd hn
    obtain ⟨n, rfl⟩ : ∃ m, n = m + 1 := ⟨n - 1, by omega⟩
    rw [fX4_init_49, ck_t ⟨g j j0, h1, by omega⟩, if_pos (by omega), ck_t (by omega)]
    congr 2
    funext a k
    unfold tp_
    have ej : j = 8 := by omega
    by_cases c : a = x0 + 1
    · subst c
      rw [if_pos rfl, nw_i (by omega), iv_27 h1.1 h1.2, ej]
      split <;> omega
    · rw [if_neg c, ej, show x0 + 11 + 75 * (8 : Int) = x0 + 611 by omega]
  | succ d ih =>
    intro n j j0 hd hn
    obtain ⟨n, rfl⟩ : ∃ m, n = m + 1 := ⟨n - 1, by omega⟩
    obtain ⟨i1, i2, i3, i4, i5, i6, i7, i8, i9⟩ := hi j j0 (by omega)
    rw [fX4_init_49, ck_t ⟨g j j0, h1, by omega⟩, if_neg (by omega), ck_t (by omega), ck_t ⟨g j j0, h1, by omega⟩, ck_t ⟨i1, i2⟩, X10_init_e _ i1 i3 i4 i5 i6 i7 i8 i9, bd_s, ck_t (by omega), lt_d, lt_d, wr_id (by omega)]
    have e : up_ (nw_ (tp_ v x0 j) (x0 + 11 + 75 * j) (x0 + 11 + 75 * j + 75)) (x0 + 1) j (x0 + 11 + 75 * j) = tp_ v x0 (j + 1) := by
      funext a k
      unfold tp_
      by_cases c : a = x0 + 1
      · subst c
        rw [if_pos rfl]
        by_cases ck : k = j
        · rw [up_s ⟨rfl, ck⟩, if_pos (by omega)]
          omega
        · rw [up_n (fun q => ck q.2), nw_o (by omega), if_pos rfl]
          by_cases c3 : 0 ≤ k ∧ k < j
          · rw [if_pos c3, if_pos (by omega)]
          · rw [if_neg c3, if_neg (by omega)]
      · rw [up_n (fun q => c q.1), if_neg c]
        by_cases c4 : x0 + 11 + 75 * j ≤ a ∧ a < x0 + 11 + 75 * j + 75
        · rw [nw_i c4, nw_i (by omega)]
        · rw [nw_o c4, if_neg c]
          by_cases c5 : x0 ≤ a ∧ a < x0 + 11 + 75 * j
          · rw [nw_i c5, nw_i (by omega)]
          · rw [nw_o c5, nw_o (by omega)]
    have t := ih n (j + 1) (by omega) (by omega) (by omega)
    rw [show x0 + 11 + 75 * (j + 1) = x0 + 11 + 75 * j + 75 by omega, ← e] at t
    exact t
