/-! layer 2: the start -/
section DESK2
variable {u v : V_} {x0 a k : Int}
def f11_ (k : Int) : Int := if k = 5 then 76 else if k = 4 then 12 else if k = 2 then -1 else 0
theorem X0_142 : (ty_ 142 = 0 ∧ (ty_ (142 + 1) = 24 ∧ ln_ (142 + 1) = 40) ∧ (ty_ (142 + 42) = 24 ∧ ln_ (142 + 42) = 3) ∧ (ty_ (142 + 46) = 23 ∧ ln_ (142 + 46) = 3)) ∧ (∀ j : Nat, j < 40 → ty_ (142 + 1 + 1 + (j : Int)) = 20 ∧ ln_ (142 + 1 + 1 + (j : Int)) = 47) ∧ ∀ j : Nat, j < 3 → ty_ (142 + 42 + 1 + (j : Int)) = 20 ∧ ln_ (142 + 42 + 1 + (j : Int)) = 47 := ⟨by decide +kernel, by decide +kernel, by decide +kernel⟩
theorem X11_1 (v : V_) : fX11_init 1 (zr_ v 1) = some (0, bg_ (px_ c11_ f11_ v 1 813) 12) := by
  have t20 : ty_ 1 < 20 := by decide +kernel
  unfold fX11_init
  rw [px_0 (c := c11_) (x0 := 1) (v := v)]
  rw [ck_t (by decide +kernel), px_z (j' := 2) (c11_z (by decide +kernel) (by decide) (by decide) (by decide)) t20 (by decide) (by decide +kernel) (by decide +kernel), lt_d, px_f (by decide +kernel), lt_d, ck_t (by decide +kernel), show (1 : Int) + 2 = 3 from rfl, X3_3, bd_s]
  try dsimp only
  have e1 := fun f => px_c (c := c11_) (f := f) (v := v) (x0 := 1) (j := 2) (n := 9) (j' := 11) (s := 3) t20 (by decide) (by decide +kernel) (by decide +kernel)
  have e1 : ∀ f, up_ (nx_ c11_ (px_ c11_ f v 1 2) 3 12) 1 3 3 = px_ c11_ f v 1 11 := e1
  rw [e1, lt_d, ck_t (by decide +kernel), show (1 : Int) + 11 = 12 from rfl, X5_12, bd_s]
  try dsimp only
  have e2 := fun f => px_g (c := c11_) (f := f) (v := v) (x0 := 1) (j := 11) (n := 64) (j' := 75) t20 (by decide) (by decide +kernel)
  have e2 : ∀ f, nx_ c11_ (px_ c11_ f v 1 11) 12 76 = px_ c11_ f v 1 75 := e2
  rw [e2, px_f (by decide +kernel), lt_d, ck_t (by decide +kernel), show (1 : Int) + 75 = 76 from rfl, X5_76, bd_s]
  try dsimp only
  have e3 := fun f => px_g (c := c11_) (f := f) (v := v) (x0 := 1) (j := 75) (n := 64) (j' := 139) t20 (by decide) (by decide +kernel)
  have e3 : ∀ f, nx_ c11_ (px_ c11_ f v 1 75) 76 140 = px_ c11_ f v 1 139 := e3
  rw [e3, px_f (by decide +kernel), lt_d, ck_t (by decide +kernel), show (1 : Int) + 139 = 140 from rfl, X7_init_e _ (by decide +kernel) (by decide +kernel), bd_s]
  try dsimp only
  have N : ∀ (u : V_) (lo hi : Int), 83 < lo → nw_ u lo hi = nx_ c11_ u lo hi := fun u lo hi h => nw_nx fun a h1 h2 k => c11_p (by omega) (by omega) (by omega) k
  have e4 := fun f => px_c (c := c11_) (f := f) (v := v) (x0 := 1) (j := 139) (n := 2) (j' := 141) (s := 6) t20 (by decide) (by decide +kernel) (by decide +kernel)
  have e4 : ∀ f, up_ (nx_ c11_ (px_ c11_ f v 1 139) 140 (140 + 2)) 1 6 140 = px_ c11_ f v 1 141 := e4
  rw [N _ _ _ (by decide), e4, lt_d]
  unfold fX11_init_62
  obtain ⟨⟨x1, x2, x3, x4⟩, x5, x6⟩ := X0_142
  rw [ck_t (by decide +kernel), show (1 : Int) + 141 = 142 from rfl, X0_init_e _ x1 ⟨x2, x5⟩ ⟨x3, x6⟩ x4, bd_s]
  try dsimp only
  have e5 := fun f => px_c (c := c11_) (f := f) (v := v) (x0 := 1) (j := 141) (n := 47) (j' := 188) (s := 7) t20 (by decide) (by decide +kernel) (by decide +kernel)
  have e5 : ∀ f, up_ (nx_ c11_ (px_ c11_ f v 1 141) 142 (142 + 47)) 1 7 142 = px_ c11_ f v 1 188 := e5
  rw [N _ _ _ (by decide), e5, lt_d, ck_t (by decide +kernel), show (1 : Int) + 188 = 189 from rfl, X4_189, bd_s]
  try dsimp only
  have e6 := fun f => px_c (c := c11_) (f := f) (v := v) (x0 := 1) (j := 188) (n := 611) (j' := 799) (s := 8) t20 (by decide) (by decide +kernel) (by decide +kernel)
  have e6 : ∀ f, up_ (nx_ c11_ (px_ c11_ f v 1 188) 189 800) 1 8 189 = px_ c11_ f v 1 799 := e6
  rw [N _ _ _ (by decide), e6, lt_d, ck_t (by decide +kernel), show (1 : Int) + 799 = 800 from rfl, X6_init_e _ (by decide +kernel) (by decide +kernel) (by decide +kernel) (by decide +kernel) (by decide +kernel) (by decide +kernel) (by decide +kernel), bd_s]
  try dsimp only
  have e7 := fun f => px_c (c := c11_) (f := f) (v := v) (x0 := 1) (j := 799) (n := 7) (j' := 806) (s := 9) t20 (by decide) (by decide +kernel) (by decide +kernel)
  have e7 : ∀ f, up_ (nx_ c11_ (px_ c11_ f v 1 799) 800 (800 + 7)) 1 9 800 = px_ c11_ f v 1 806 := e7
  rw [N _ _ _ (by decide), e7, lt_d, ck_t (by decide +kernel), show (1 : Int) + 806 = 807 from rfl, X6_init_e _ (by decide +kernel) (by decide +kernel) (by decide +kernel) (by decide +kernel) (by decide +kernel) (by decide +kernel) (by decide +kernel), bd_s]
  try dsimp only
  have e8 := fun f => px_c (c := c11_) (f := f) (v := v) (x0 := 1) (j := 806) (n := 7) (j' := 813) (s := 10) t20 (by decide) (by decide +kernel) (by decide +kernel)
  have e8 : ∀ f, up_ (nx_ c11_ (px_ c11_ f v 1 806) 807 (807 + 7)) 1 10 807 = px_ c11_ f v 1 813 := e8
  rw [N _ _ _ (by decide), e8, lt_d]
  have ef : (fun k => if k = 5 then (76 : Int) else (fun k => if k = 4 then (12 : Int) else (fun k => if k = 2 then (-1 : Int) else (fun _ => (0 : Int)) k) k) k) = f11_ := rfl
  rw [show px_ c11_ (fun k => if k = 5 then (76 : Int) else (fun k => if k = 4 then (12 : Int) else (fun k => if k = 2 then (-1 : Int) else (fun _ => (0 : Int)) k) k) k) v 1 813 = px_ c11_ f11_ v 1 813 from rfl]
  have g6 : px_ c11_ f11_ v 1 813 1 6 = 140 := by
    unfold px_
    rw [if_pos rfl, show iv_ 1 6 = 140 by decide +kernel, if_pos (by decide)]
  have g4 : px_ c11_ f11_ v 1 813 1 4 = 12 := by
    unfold px_
    rw [if_pos rfl, show iv_ 1 4 = 0 by decide +kernel, if_neg (by decide)]
    rfl
  have S : Sc_ 1 (1 + 813) (px_ c11_ f11_ v 1 813) := by
    refine ⟨Cl_rng (lo := 1) (hi := 814) (by decide) (by decide +kernel) (by decide +kernel) (by decide +kernel) (by decide +kernel) (by decide +kernel), St_iv _ fun a ha k o ho => ?_⟩
    unfold px_
    by_cases h : a = 1
    · rw [if_pos h]
      rw [h] at ho
      have t1 : ty_ 1 = 11 ∧ ln_ 1 = 0 := by decide +kernel
      have e : iv_ 1 (k : Int) = 1 + o := iv_some t20 (by omega) (by
        rw [show ((k : Nat) : Int).toNat = k by omega]
        unfold of_ at ho
        rw [if_pos t20] at ho
        exact ho)
      have m : 0 < o ∧ o ≤ 806 := by
        unfold of_ at ho
        rw [if_pos t20, t1.1] at ho
        exact ofO_mx ho
      rw [if_pos (by rw [e]; omega), h]
    · rw [if_neg h, if_pos (by omega)]
      by_cases h2 : a = 5 ∨ a = 18 ∨ a = 82 ∨ a = 19 ∨ a = 83
      · exfalso
        have t : 20 ≤ ty_ a ∧ ty_ a < 24 := by
          rcases h2 with rfl | rfl | rfl | rfl | rfl <;> decide +kernel
        unfold of_ ofA_ at ho
        rw [if_neg (by omega)] at ho
        split at ho
        · cases ho
        · rw [if_neg (by omega), if_neg (by omega), if_neg (by omega), if_neg (by omega)] at ho
          cases ho
      · exact c11_p (by omega) (by omega) (by omega) k
  rw [ck_t ⟨g6, by decide +kernel, by decide⟩, ck_t ⟨g4, by decide +kernel, by decide⟩, ckp_t S, show (1 : Int) + 139 = 140 from rfl, show (1 : Int) + 11 = 12 from rfl, begin_e (Or.inl rfl), bd_s]
end DESK2
