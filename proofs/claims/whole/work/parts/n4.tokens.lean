/-! layer 2: the class's constructors: tokens, parser, desk -/
section DESK
variable {u v : V_} {x0 a k : Int}
theorem ws_w : ∀ n : Nat, n < 67 → 0 ≤ (ws_ n).1 ∧ (ws_ n).1 < 17 := by decide +kernel
theorem ws_e : ∀ k : Nat, k < 17 → (ws_ 67).2 k = pw_ 32 (wd_ k) := by decide +kernel
def c9_ (a k : Int) : Int := if a = 5 then 0 else iv_ a k
theorem X9_4 (v : V_) : fX9_init 4 (zr_ v 4) = some (0, nx_ c11_ v 4 9) := by
  have t20 : ty_ 4 < 20 := by decide +kernel
  have A : ∀ j : Int, 1 ≤ j → j ≤ 4 → ∀ k, iv_ (4 + j) k = 0 := fun j j0 j1 k => by
    have t : ∀ m : Nat, m < 5 → 1 ≤ m → 20 ≤ tyq_ (4 + m) ∧ tyq_ (4 + m) < 24 := by decide +kernel
    have := t j.toNat (by omega) (by omega)
    refine iv_arr ?_
    unfold ty_
    rw [show ((4 : Int) + j).toNat = 4 + j.toNat by omega]
    exact this
  unfold fX9_init
  rw [px_0 (c := iv_) (x0 := 4) (v := v)]
  rw [ck_t (by decide +kernel), px_z (j' := 2) (A 1 (by decide) (by decide)) t20 (by decide) (by decide +kernel) (by decide +kernel), lt_d]
  rw [ck_t (by decide +kernel), px_z (j' := 3) (A 2 (by decide) (by decide)) t20 (by decide) (by decide +kernel) (by decide +kernel), lt_d]
  rw [ck_t (by decide +kernel), px_z (j' := 4) (A 3 (by decide) (by decide)) t20 (by decide) (by decide +kernel) (by decide +kernel), lt_d]
  rw [ck_t (by decide +kernel), px_z (j' := 5) (A 4 (by decide) (by decide)) t20 (by decide) (by decide +kernel) (by decide +kernel), lt_d]
  have e : px_ iv_ (fun _ => 0) v 4 5 = nx_ iv_ v 4 9 := px_e (by decide) fun k => iv_all (x0 := 4) (P := fun k y => y = if 4 < y ∧ y < 4 + 5 then y else 0) t20 (by decide +kernel) (fun _ => rfl) k
  rw [e]
  have tw : ty_ (4 + 1) = 22 ∧ ln_ (4 + 1) = 17 := by decide +kernel
  obtain ⟨⟨w, s⟩, h, h2⟩ := lp_s (σ := Int × V_) (α := Option (Int × V_)) (F := fun N i s => fX9_init_43 N 4 s.1 i 9 s.2) (K := fun s => some (0, s.2)) (I := fun i s => 0 ≤ i ∧ s.1 = (ws_ i.toNat).1 ∧ (∀ k, s.2 5 k = (ws_ i.toNat).2 k) ∧ ∀ a k, a ≠ 5 → s.2 a k = nx_ iv_ v 4 9 a k) (e := 67) (fun N i s hI i1 => by
    obtain ⟨w, s⟩ := s
    obtain ⟨i0, e1, e2, e3⟩ := hI
    try dsimp only at e1 e2 e3 ⊢
    have hw := ws_w i.toNat (by omega)
    have g : s 4 0 = 4 + 1 := by
      rw [e3 _ _ (by decide), nx_i (by decide)]
      decide +kernel
    have en : (i + 1).toNat = i.toNat + 1 := by omega
    have ei : ((i.toNat : Nat) : Int) = i := by omega
    rw [fX9_init_43, ck_t (by decide), if_neg (by omega), if_neg (by omega), ck_t (by decide), ck_t (by omega), lt_d]
    by_cases c : sb_ i = 32
    · rw [if_pos c, wr_id (by omega), wr_id (by omega), lt_d, lt_d]
      refine ⟨(w + 1, s), rfl, by omega, ?_, fun k => ?_, e3⟩
      · rw [en, ws_, ei, if_pos c, e1]
      · rw [en, ws_, ei, if_pos c]
        exact e2 k
    · rw [if_neg c, ck_t ⟨g, tw, by decide⟩, ck_t ⟨g, tw, by decide⟩, ck_t (by omega), ck_t (by decide), fX9_withLetter, bd_s, ck_t (by omega), lt_d, wr_id (x := i + 1) (by omega), lt_d]
      refine ⟨(w, up_ s 5 w (wl_ (wl_ (s 5 w * 32) + wr_ (wr_ (sb_ i - 97) + 1)))), rfl, by omega, ?_, fun k => ?_, fun a k q => (up_n (by omega)).trans (e3 a k q)⟩
      · rw [en, ws_, ei, if_neg c]
        exact e1
      · rw [en, ws_, ei, if_neg c]
        try dsimp only
        rw [← e1]
        by_cases ck : k = w
        · rw [if_pos ck, up_s ⟨rfl, ck⟩, e2, ck]
        · rw [if_neg ck, up_n (by omega)]
          exact e2 k) (fun N s hI => by
    try dsimp only
    rw [fX9_init_43, ck_t (by decide), if_pos (by decide), ck_t (by decide)]) 67 fu_ 0 (0, nx_ iv_ v 4 9) ⟨by decide, rfl, fun k => by
      try dsimp only
      rw [nx_i (by decide)]
      exact A 1 (by decide) (by decide) k, fun _ _ _ => rfl⟩ (by decide) (by unfold fu_; omega)
  obtain ⟨-, -, h3, h4⟩ := h2
  have h4 : ∀ a k, a ≠ 5 → s a k = nx_ iv_ v 4 9 a k := h4
  have es : s = nx_ c11_ v 4 9 := by
    funext a k
    by_cases q : a = 5
    · rw [q, nx_i (by decide)]
      unfold c11_
      rw [if_pos rfl]
      exact h3 k
    · rw [h4 a k q]
      by_cases q2 : 4 ≤ a ∧ a < 9
      · rw [nx_i q2, nx_i q2]
        unfold c11_
        rw [if_neg q, if_neg (by omega), if_neg (by omega)]
      · rw [nx_o q2, nx_o q2]
  rw [← es]
  exact h
/-- the content, where it is plain -/
theorem c11_p (h : a ≠ 5) (h2 : ¬ (a = 18 ∨ a = 82)) (h3 : ¬ (a = 19 ∨ a = 83)) (k : Int) : c11_ a k = iv_ a k := by
  unfold c11_
  rw [if_neg h, if_neg (fun q => h2 q.1), if_neg (fun q => h3 q.1)]
theorem c11_z (t : 20 ≤ ty_ a ∧ ty_ a < 24) (h : a ≠ 5) (h2 : ¬ (a = 18 ∨ a = 82)) (h3 : ¬ (a = 19 ∨ a = 83)) (k : Int) : c11_ a k = 0 := (c11_p h h2 h3 k).trans (iv_arr t)
theorem X3_3 (v : V_) : fX3_init 3 (zr_ v 3) = some (0, nx_ c11_ v 3 12) := by
  have t20 : ty_ 3 < 20 := by decide +kernel
  unfold fX3_init
  rw [px_0 (c := c11_) (x0 := 3) (v := v), ck_t (by decide +kernel), show (3 : Int) + 1 = 4 from rfl, X9_4, bd_s]
  try dsimp only
  have e1 := px_c (c := c11_) (f := fun _ => 0) (v := v) (x0 := 3) (j := 1) (n := 5) (j' := 6) (s := 0) t20 (by decide) (by decide +kernel) (by decide +kernel)
  rw [show (3 : Int) + 1 = 4 from rfl, show (4 : Int) + 5 = 9 from rfl] at e1
  rw [e1, lt_d]
  rw [ck_t (by decide +kernel), px_z (j' := 7) (c11_z (by decide +kernel) (by decide) (by decide) (by decide)) t20 (by decide) (by decide +kernel) (by decide +kernel), lt_d]
  rw [ck_t (by decide +kernel), px_z (j' := 8) (c11_z (by decide +kernel) (by decide) (by decide) (by decide)) t20 (by decide) (by decide +kernel) (by decide +kernel), lt_d]
  rw [ck_t (by decide +kernel), px_z (j' := 9) (c11_z (by decide +kernel) (by decide) (by decide) (by decide)) t20 (by decide) (by decide +kernel) (by decide +kernel), lt_d]
  have e : px_ c11_ (fun _ => 0) v 3 9 = nx_ c11_ v 3 12 := px_e (by decide) fun k => (c11_p (by decide) (by decide) (by decide) k).trans (iv_all (x0 := 3) (P := fun k y => y = if 3 < y ∧ y < 3 + 9 then y else 0) t20 (by decide +kernel) (fun _ => rfl) k)
  rw [e]
end DESK
