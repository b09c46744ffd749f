/-! layer 2: what the constructors leave -/
/-- a new cell's place: the offset of a static reference, else 0 -/
def iv_ (a k : Int) : Int := if 0 ≤ k then (match of_ (ty_ a) (ln_ a) k.toNat with | some o => a + o | none => 0) else 0
/-- the cells from lo to hi new -/
def nw_ (v : V_) (lo hi : Int) : V_ := fun a k => if lo ≤ a ∧ a < hi then iv_ a k else v a k
theorem nw_i {v : V_} {lo hi a k : Int} (h : lo ≤ a ∧ a < hi) : nw_ v lo hi a k = iv_ a k := if_pos h
theorem nw_o {v : V_} {lo hi a k : Int} (h : ¬ (lo ≤ a ∧ a < hi)) : nw_ v lo hi a k = v a k := if_neg h
theorem nw_nw {v : V_} {a b c : Int} (h : a ≤ b ∧ b ≤ c) : nw_ (nw_ v a b) b c = nw_ v a c := by
  funext x k
  by_cases c1 : a ≤ x ∧ x < c
  · rw [nw_i c1]
    by_cases c2 : b ≤ x
    · rw [nw_i ⟨c2, c1.2⟩]
    · rw [nw_o (by omega), nw_i (by omega)]
  · rw [nw_o c1, nw_o (by omega), nw_o (by omega)]
theorem zr_s {v : V_} {a b k : Int} (h : b = a) : zr_ v a b k = 0 := if_pos h
theorem zr_n {v : V_} {a b k : Int} (h : ¬ b = a) : zr_ v a b k = v b k := if_neg h
/-- an array of numbers holds no static reference -/
theorem iv_arr {a k : Int} (h : 20 ≤ ty_ a ∧ ty_ a < 24) : iv_ a k = 0 := by
  unfold iv_ of_ ofA_
  split
  · rw [if_neg (show ¬ ty_ a < 20 by omega)]
    by_cases c : ln_ a ≤ k.toNat
    · rw [if_pos c]
    · rw [if_neg c, if_neg (by omega), if_neg (by omega), if_neg (by omega), if_neg (by omega)]
  · rfl
theorem iv_some {a k : Int} {o : Int} (h20 : ty_ a < 20) (hk : 0 ≤ k) (h : ofO_ (ty_ a) k.toNat = some o) : iv_ a k = a + o := by
  unfold iv_ of_
  rw [if_pos hk, if_pos h20, h]
theorem iv_none {a k : Int} (h20 : ty_ a < 20) (h : 0 ≤ k → ofO_ (ty_ a) k.toNat = none) : iv_ a k = 0 := by
  unfold iv_ of_
  by_cases hk : 0 ≤ k
  · rw [if_pos hk, if_pos h20, h hk]
  · rw [if_neg hk]
theorem ofO_big {t n : Nat} (h : 90 ≤ n) : ofO_ t n = none := by
  unfold ofO_
  split <;> first | rfl | omega
theorem ofO_cl {t : Nat} {P : Nat → Prop} (hs : ∀ n : Nat, n < 90 → P n → ofO_ t n = none) {n : Nat} (h : P n) : ofO_ t n = none := by
  by_cases c : n < 90
  · exact hs n c h
  · exact ofO_big (by omega)
theorem oN7 : ∀ n : Nat, n < 90 → n ≠ 0 → ofO_ 7 n = none := by decide
theorem oN2 : ∀ n : Nat, n < 90 → ¬ (n = 0 ∨ n = 1 ∨ n = 2 ∨ n = 3 ∨ n = 4) → ofO_ 2 n = none := by decide
theorem oN6 : ∀ n : Nat, n < 90 → ¬ (n = 0 ∨ n = 1 ∨ n = 2 ∨ n = 3 ∨ n = 12 ∨ n = 13) → ofO_ 6 n = none := by decide
theorem iv_X7 {a k : Int} (h : ty_ a = 7) : iv_ a k = if k = 0 then a + 1 else 0 := by
  by_cases c : k = 0
  · subst c
    rw [if_pos rfl, iv_some (by omega) (by decide) (by rw [h]; rfl)]
  · rw [if_neg c, iv_none (by omega) (fun hk => by rw [h]; exact ofO_cl oN7 (by omega))]
theorem X7_init_e (v : V_) {x0 : Int} (h0 : ty_ x0 = 7) (h1 : ty_ (x0 + 1) = 20 ∧ ln_ (x0 + 1) = 47) : fX7_init x0 (zr_ v x0) = some (0, nw_ v x0 (x0 + 2)) := by
  unfold fX7_init
  rw [ck_t h1, lt_d]
  congr 2
  funext a k
  by_cases c0 : a = x0
  · subst c0
    rw [nw_i (by omega), iv_X7 h0]
    by_cases c : k = 0
    · rw [if_pos c, up_s ⟨rfl, c⟩]
    · rw [if_neg c, up_n (fun q => c q.2), zr_n (by omega), zr_s rfl]
  · rw [up_n (fun q => c0 q.1)]
    by_cases c1 : a = x0 + 1
    · subst c1
      rw [zr_s rfl, nw_i (by omega), iv_arr (by omega)]
    · rw [zr_n c1, zr_n c0, nw_o (by omega)]
theorem X2_init_e (v : V_) {x0 : Int} (h0 : ty_ x0 = 2) (h1 : ty_ (x0 + 1) = 20 ∧ ln_ (x0 + 1) = 34) (h2 : ty_ (x0 + 2) = 20 ∧ ln_ (x0 + 2) = 34) (h3 : ty_ (x0 + 3) = 20 ∧ ln_ (x0 + 3) = 34) (h4 : ty_ (x0 + 4) = 20 ∧ ln_ (x0 + 4) = 34) (h5 : ty_ (x0 + 5) = 20 ∧ ln_ (x0 + 5) = 4) : fX2_init x0 (zr_ v x0) = some (0, nw_ v x0 (x0 + 6)) := by
  unfold fX2_init
  rw [ck_t h1, lt_d, ck_t h2, lt_d, ck_t h3, lt_d, ck_t h4, lt_d, ck_t h5, lt_d]
  congr 2
  funext a k
  by_cases c0 : a = x0
  · subst c0
    rw [nw_i (by omega)]
    by_cases k0 : k = 0
    · subst k0
      rw [iv_some (o := 1) (by omega) (by decide) (by rw [h0]; rfl)]
      simp (disch := omega) only [up_s, up_n, zr_n, zr_s]
    by_cases k1 : k = 1
    · subst k1
      rw [iv_some (o := 2) (by omega) (by decide) (by rw [h0]; rfl)]
      simp (disch := omega) only [up_s, up_n, zr_n, zr_s]
    by_cases k2 : k = 2
    · subst k2
      rw [iv_some (o := 3) (by omega) (by decide) (by rw [h0]; rfl)]
      simp (disch := omega) only [up_s, up_n, zr_n, zr_s]
    by_cases k3 : k = 3
    · subst k3
      rw [iv_some (o := 4) (by omega) (by decide) (by rw [h0]; rfl)]
      simp (disch := omega) only [up_s, up_n, zr_n, zr_s]
    by_cases k4 : k = 4
    · subst k4
      rw [iv_some (o := 5) (by omega) (by decide) (by rw [h0]; rfl)]
      simp (disch := omega) only [up_s, up_n, zr_n, zr_s]
    rw [iv_none (by omega) (fun hk => by rw [h0]; exact ofO_cl oN2 (by omega))]
    simp (disch := omega) only [up_s, up_n, zr_n, zr_s]
  by_cases c1 : a = x0 + 1
  · subst c1
    rw [nw_i (by omega), iv_arr (by omega)]
    simp (disch := omega) only [up_s, up_n, zr_n, zr_s]
  by_cases c2 : a = x0 + 2
  · subst c2
    rw [nw_i (by omega), iv_arr (by omega)]
    simp (disch := omega) only [up_s, up_n, zr_n, zr_s]
  by_cases c3 : a = x0 + 3
  · subst c3
    rw [nw_i (by omega), iv_arr (by omega)]
    simp (disch := omega) only [up_s, up_n, zr_n, zr_s]
  by_cases c4 : a = x0 + 4
  · subst c4
    rw [nw_i (by omega), iv_arr (by omega)]
    simp (disch := omega) only [up_s, up_n, zr_n, zr_s]
  by_cases c5 : a = x0 + 5
  · subst c5
    rw [nw_i (by omega), iv_arr (by omega)]
    simp (disch := omega) only [up_s, up_n, zr_n, zr_s]
  rw [nw_o (by omega)]
  simp (disch := omega) only [up_s, up_n, zr_n, zr_s]
theorem X6_init_e (v : V_) {x0 : Int} (h0 : ty_ x0 = 6) (h1 : ty_ (x0 + 1) = 20 ∧ ln_ (x0 + 1) = 12) (h2 : ty_ (x0 + 2) = 20 ∧ ln_ (x0 + 2) = 8) (h3 : ty_ (x0 + 3) = 20 ∧ ln_ (x0 + 3) = 8) (h4 : ty_ (x0 + 4) = 20 ∧ ln_ (x0 + 4) = 16) (h5 : ty_ (x0 + 5) = 20 ∧ ln_ (x0 + 5) = 34) (h6 : ty_ (x0 + 6) = 20 ∧ ln_ (x0 + 6) = 34) : fX6_init x0 (zr_ v x0) = some (0, nw_ v x0 (x0 + 7)) := by
  unfold fX6_init
  rw [ck_t h1, lt_d, ck_t h2, lt_d, ck_t h3, lt_d, ck_t h4, lt_d, ck_t h5, lt_d, ck_t h6, lt_d]
  congr 2
  funext a k
  by_cases c0 : a = x0
  · subst c0
    rw [nw_i (by omega)]
    by_cases k0 : k = 0
    · subst k0
      rw [iv_some (o := 1) (by omega) (by decide) (by rw [h0]; rfl)]
      simp (disch := omega) only [up_s, up_n, zr_n, zr_s]
    by_cases k1 : k = 1
    · subst k1
      rw [iv_some (o := 2) (by omega) (by decide) (by rw [h0]; rfl)]
      simp (disch := omega) only [up_s, up_n, zr_n, zr_s]
    by_cases k2 : k = 2
    · subst k2
      rw [iv_some (o := 3) (by omega) (by decide) (by rw [h0]; rfl)]
      simp (disch := omega) only [up_s, up_n, zr_n, zr_s]
    by_cases k3 : k = 3
    · subst k3
      rw [iv_some (o := 4) (by omega) (by decide) (by rw [h0]; rfl)]
      simp (disch := omega) only [up_s, up_n, zr_n, zr_s]
    by_cases k12 : k = 12
    · subst k12
      rw [iv_some (o := 5) (by omega) (by decide) (by rw [h0]; rfl)]
      simp (disch := omega) only [up_s, up_n, zr_n, zr_s]
    by_cases k13 : k = 13
    · subst k13
      rw [iv_some (o := 6) (by omega) (by decide) (by rw [h0]; rfl)]
      simp (disch := omega) only [up_s, up_n, zr_n, zr_s]
    rw [iv_none (by omega) (fun hk => by rw [h0]; exact ofO_cl oN6 (by omega))]
    simp (disch := omega) only [up_s, up_n, zr_n, zr_s]
  by_cases c1 : a = x0 + 1
  · subst c1
    rw [nw_i (by omega), iv_arr (by omega)]
    simp (disch := omega) only [up_s, up_n, zr_n, zr_s]
  by_cases c2 : a = x0 + 2
  · subst c2
    rw [nw_i (by omega), iv_arr (by omega)]
    simp (disch := omega) only [up_s, up_n, zr_n, zr_s]
  by_cases c3 : a = x0 + 3
  · subst c3
    rw [nw_i (by omega), iv_arr (by omega)]
    simp (disch := omega) only [up_s, up_n, zr_n, zr_s]
  by_cases c4 : a = x0 + 4
  · subst c4
    rw [nw_i (by omega), iv_arr (by omega)]
    simp (disch := omega) only [up_s, up_n, zr_n, zr_s]
  by_cases c5 : a = x0 + 5
  · subst c5
    rw [nw_i (by omega), iv_arr (by omega)]
    simp (disch := omega) only [up_s, up_n, zr_n, zr_s]
  by_cases c6 : a = x0 + 6
  · subst c6
    rw [nw_i (by omega), iv_arr (by omega)]
    simp (disch := omega) only [up_s, up_n, zr_n, zr_s]
  rw [nw_o (by omega)]
  simp (disch := omega) only [up_s, up_n, zr_n, zr_s]
