/-! layer 2: what is asked of a plan, in both, on -/
theorem ct_mono {f : Int → Int} (h : ∀ i, 0 ≤ f i) (n k : Nat) : ct_ f n ≤ ct_ f (n + k) := by
  induction k with
  | zero => exact Int.le_refl _
  | succ k ih =>
    rw [show n + (k + 1) = n + k + 1 by omega]
    have := h ((n + k : Nat) : Int)
    simp only [ct_]
    omega
section QRZ
variable {g vc0 vr0 vc vr : V_} {p : Int}
theorem needs_Q (h : HP_ g p vc0 vr0 vc vr) (x y k : Int) : ∃ r, fX11_needs 1 x y k vc0 = some (r, vc) ∧ fX12_needs 814 x y k vr0 = some (r, vr) := by
  obtain ⟨e1, ⟨z, e2⟩, hP, hw, hg, hC, h4, hD⟩ := h
  have hn := hw.1
  unfold fX11_needs fX12_needs
  rw [e1, bd_s, e2, bd_s]
  try dsimp only
  obtain ⟨t, f1, f2⟩ := tr_T hP x
  rw [f1, bd_s]
  try dsimp only
  rcases f2 with ⟨x0, x1, x2, x3, f2⟩ | ⟨x3, f2⟩
  · obtain ⟨L, -, hL, hT⟩ := hP.2.1
    obtain ⟨m, hm⟩ := hT x x0 x1
    have m34 := hm.1.1.2.2.2
    have m1 := hm.1.1.2.2.1
    rcases itm_T ⟨x0, x2⟩ hm f2 y with ⟨y0, y1, i1, i2⟩ | ⟨i1, i2⟩
    · rw [x3, i1, bd_s, i2, bd_s, if_neg (show ¬ 207 + 75 * x + 2 * y = 0 by omega), if_neg n10_]
      try dsimp only
      rcases itm_T ⟨x0, x2⟩ hm f2 k with ⟨k0, k1, j1, j2⟩ | ⟨j1, j2⟩
      · rw [j1, bd_s, j2, bd_s, if_neg (show ¬ 207 + 75 * x + 2 * k = 0 by omega), if_neg n10_]
        try dsimp only
        by_cases c : y < k
        · obtain ⟨n, n1, n2⟩ := need_e (L := L) (t := x) (m := m) (i := y) (j := k) hw hg hD ⟨x0, x2⟩ (fun b b0 b1 => (hL b b0 b1).2) (IE_V ⟨m1, m34⟩ fun j j0 j1 => (hm.2.1 j j0 j1).1) ⟨y0, c⟩ k1
          have a9 := hm.2.2.2.1 y k y0 c k1
          have hj : wr_ (wr_ (y * 34) + k) = 34 * y + k := by rw [wr_id (show -2147483648 ≤ y * 34 ∧ y * 34 < 2147483648 by omega), wr_id (by omega)]; omega
          rw [if_pos c, if_neg (show ¬ k ≤ y by omega), ck_t (show ¬ 200 + 75 * x = 0 by omega)]
          unfold fX10_needOf
          rw [hj, ck_t (by omega), bd_s, ix_ ⟨x0, x2⟩ ⟨y0, by omega⟩, ix_ ⟨x0, x2⟩ ⟨k0, by omega⟩, n1, bd_s, show 200 + 75 * x + 4 = 204 + 75 * x by omega]
          rw [MX_u a9 n2 (fun q w1 w2 => ⟨q, w1, w2, rfl⟩) (fun q w1 w2 => ⟨q, w1, w2, rfl⟩)]
          exact ⟨_, rfl, rfl⟩
        · rw [if_neg c, if_pos (show k ≤ y by omega)]
          exact ⟨_, rfl, rfl⟩
      · rw [j1, bd_s, j2, bd_s, if_pos rfl, if_pos rfl]
        exact ⟨_, rfl, rfl⟩
    · rw [x3, i1, bd_s, i2, bd_s, if_pos rfl, if_pos rfl]
      exact ⟨_, rfl, rfl⟩
  · rw [x3, noi_c, bd_s, noi_r f2, bd_s, if_pos rfl, if_pos rfl]
    exact ⟨_, rfl, rfl⟩
/-- fewer copies than asked -/
theorem few_e {t j y : Int} (ht : 0 ≤ t ∧ t < 8) (hj : 0 ≤ j ∧ j < 34) (hy : 0 ≤ y ∧ y < 2147483648) (h : cop_ vr t j ≤ y) : fX12_copied_25 fu_ 814 t j y 0 vr = some (-1, vr) := by
  obtain ⟨s, e, -, -⟩ := lp_s (σ := Int) (F := fun n i s => fX12_copied_25 n 814 t j s i vr) (K := fun _ => some (-1, vr)) (e := j) (I := fun i s => 0 ≤ i ∧ ((vr 849 (34 * t + j) = 2 ∧ s = y - ct_ (lt1_ vr t j) i.toNat) ∨ (vr 849 (34 * t + j) ≠ 2 ∧ s = y))) (fun n i s h' hi => by
    obtain ⟨i0, h1⟩ := h'
    have cb := ct_01 (lt1_01 vr t j) i.toNat
    obtain ⟨r, x1, x2⟩ := isCopied_e (v := vr) (t := t) (j := j) (i := i) ht hj ⟨i0, by omega⟩
    have st : ct_ (lt1_ vr t j) (i + 1).toNat = ct_ (lt1_ vr t j) i.toNat + lt1_ vr t j i := by
      rw [show (i + 1).toNat = i.toNat + 1 by omega]
      simp only [ct_]
      rw [show ((i.toNat : Nat) : Int) = i by omega]
    rw [fX12_copied_25, if_neg (show ¬ j ≤ i by omega), x1, bd_s]
    try dsimp only
    rcases x2 with ⟨q, c1, -, c2⟩ | ⟨q, q2⟩
    · have one : lt1_ vr t j i = 1 := by unfold lt1_; rw [if_pos c2]
      rcases h1 with ⟨-, h1⟩ | ⟨h1, -⟩
      · have mo := ct_mono (f := lt1_ vr t j) (fun i => (lt1_01 vr t j i).1) (i + 1).toNat (j - (i + 1)).toNat
        rw [show (i + 1).toNat + (j - (i + 1)).toNat = j.toNat by omega] at mo
        unfold cop_ at h
        rw [if_pos c1] at h
        rw [if_neg (show ¬ r = 0 by omega), if_neg (show ¬ s = 0 by omega), lt_d, lt_d, wr_id (by omega), wr_id (by omega)]
        exact ⟨_, rfl, by omega, Or.inl ⟨c1, by omega⟩⟩
      · exact absurd c1 h1
    · rw [if_pos q, lt_d, wr_id (by omega)]
      refine ⟨s, rfl, by omega, ?_⟩
      rcases h1 with ⟨h0, h1⟩ | h1
      · have zero : lt1_ vr t j i = 0 := by
          unfold lt1_
          rw [if_neg (fun z => q2 ⟨h0, hi, z⟩)]
        exact Or.inl ⟨h0, by omega⟩
      · exact Or.inr h1) (fun n s _ => by
    rw [fX12_copied_25, if_pos (Int.le_refl _)]) j.toNat fu_ 0 y ⟨by decide, by
      by_cases c : vr 849 (34 * t + j) = 2
      · exact Or.inl ⟨c, by simp [ct_]⟩
      · exact Or.inr ⟨c, rfl⟩⟩ (by omega) (by unfold fu_; omega)
  exact e
theorem copied_Q (h : HP_ g p vc0 vr0 vc vr) (x y k : Int) (hk : iR_ k) : ∃ r, fX11_copied 1 x y k vc0 = some (r, vc) ∧ fX12_copied 814 x y k vr0 = some (r, vr) := by
  obtain ⟨e1, ⟨z, e2⟩, hP, hw, hg, hC, h4, hD⟩ := h
  unfold iR_ at hk
  unfold fX11_copied fX12_copied
  rw [e1, bd_s, e2, bd_s]
  try dsimp only
  obtain ⟨t, f1, f2⟩ := tr_T hP x
  rw [f1, bd_s]
  try dsimp only
  rcases f2 with ⟨x0, x1, x2, x3, f2⟩ | ⟨x3, f2⟩
  · obtain ⟨L, -, hL, hT⟩ := hP.2.1
    obtain ⟨m, hm⟩ := hT x x0 x1
    have m34 := hm.1.1.2.2.2
    rcases itm_T ⟨x0, x2⟩ hm f2 y with ⟨y0, y1, i1, i2⟩ | ⟨i1, i2⟩
    · rw [x3, i1, bd_s, i2, bd_s, if_neg (show ¬ 207 + 75 * x + 2 * y = 0 by omega), if_neg n10_]
      try dsimp only
      by_cases c : k < 0
      · rw [if_pos c, if_neg (show ¬ 0 ≤ k by omega)]
        exact ⟨_, rfl, rfl⟩
      · have b9 := (hm.2.2.2.2.2.2.2.2.1.1 y y0 y1).2
        rw [if_neg c, if_pos (show 0 ≤ k by omega)]
        by_cases c2 : k < cop_ vr x y
        · rw [if_pos (show k < vc (207 + 75 * x + 2 * y) 9 by omega)]
          have spl : vr 849 (34 * x + y) = 2 := by
            refine Classical.byContradiction fun q => ?_
            unfold cop_ at c2
            rw [if_neg q] at c2
            omega
          have h7 : ∀ i, 0 ≤ i → i < m → vc (207 + 75 * x + 2 * i) 7 = vr 858 (34 * x + i) := fun i i0 i1 => (hm.2.2.2.2.2.2.1.1 i i0 i1).1
          rcases lp_x (σ := Int × Int) (α := Option (Int × V_) × Option (Int × V_)) (F := fun n i s => (fX11_copied_44 n y k (200 + 75 * x) (207 + 75 * x + 2 * y) s.1 i vc, fX12_copied_25 n 814 x y s.2 i vr)) (K := fun _ => (some (-1, vc), some (-1, vr))) (e := y) (I := fun i s => 0 ≤ i ∧ s.2 = k - s.1 ∧ 0 ≤ s.1 ∧ s.1 ≤ i ∧ s.1 ≤ k) (Q := fun out => ∃ r, out = (some (r, vc), some (r, vr))) (fun n i ⟨a, b⟩ h hi => by
            obtain ⟨i0, h1, h2, h3, h3'⟩ := h
            dsimp only at h1 h2 h3 h3' ⊢
            obtain ⟨r, o1, o2⟩ := isCopied_e (v := vr) (t := x) (j := y) (i := i) ⟨x0, x2⟩ ⟨y0, by omega⟩ ⟨i0, by omega⟩
            rw [fX11_copied_44, if_neg (show ¬ y ≤ i by omega), ck_t (show ¬ 200 + 75 * x = 0 by omega), ck_t (by omega), show 200 + 75 * x + 2 + (5 + 2 * i) = 207 + 75 * x + 2 * i by omega, h7 i i0 (by omega), h7 y y0 y1, fX12_copied_25, if_neg (show ¬ y ≤ i by omega), o1, bd_s]
            try dsimp only
            rcases o2 with ⟨q, -, -, q2⟩ | ⟨q, q2⟩
            · rw [if_neg (show ¬ vr 858 (34 * x + i) ≤ vr 858 (34 * x + y) by omega), if_neg (show ¬ r = 0 by omega)]
              by_cases w : a = k
              · rw [if_pos w, if_pos (show b = 0 by omega)]
                exact Or.inr ⟨_, rfl⟩
              · rw [if_neg w, if_neg (show ¬ b = 0 by omega), lt_d, lt_d, lt_d, lt_d, wr_id (by omega), wr_id (by omega), wr_id (by omega)]
                refine Or.inl ⟨(a + 1, b + -1), rfl, by omega, ?_, ?_, ?_, ?_⟩ <;> dsimp only <;> omega
            · rw [if_pos (show vr 858 (34 * x + i) ≤ vr 858 (34 * x + y) from Classical.byContradiction fun w => q2 ⟨spl, hi, by omega⟩), if_pos q, lt_d, lt_d, wr_id (by omega)]
              exact Or.inl ⟨(a, b), rfl, by omega, h1, h2, by dsimp only; omega, h3'⟩) (fun n ⟨a, b⟩ _ => by
            dsimp only
            rw [fX11_copied_44, if_pos (Int.le_refl _), fX12_copied_25, if_pos (Int.le_refl _)]) y.toNat fu_ 0 (0, k) ⟨by decide, by dsimp only; omega, by dsimp only; omega, by dsimp only; omega, by dsimp only; omega⟩ (by omega) (by unfold fu_; omega) with ⟨s, e, -⟩ | ⟨r, e⟩
          · obtain ⟨u1, u2⟩ := Prod.mk.inj e
            exact ⟨_, u1, u2⟩
          · obtain ⟨u1, u2⟩ := Prod.mk.inj e
            exact ⟨_, u1, u2⟩
        · rw [if_neg (show ¬ k < vc (207 + 75 * x + 2 * y) 9 by omega), few_e ⟨x0, x2⟩ ⟨y0, by omega⟩ (by omega) (by omega)]
          exact ⟨_, rfl, rfl⟩
    · rw [x3, i1, bd_s, i2, bd_s, if_pos rfl, if_pos rfl]
      exact ⟨_, rfl, rfl⟩
  · rw [x3, noi_c, bd_s, noi_r f2, bd_s, if_pos rfl, if_pos rfl]
    exact ⟨_, rfl, rfl⟩
end QRZ
