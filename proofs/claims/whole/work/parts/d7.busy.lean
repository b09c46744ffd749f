/-! layer 2: kinds at a cycle, blocks -/
section QRB
variable {g vc0 vr0 vc vr : V_} {p : Int}
theorem busy_Q (h : HP_ g p vc0 vr0 vc vr) (x y k : Int) : ∃ r, fX11_busy 1 x y k vc0 = some (r, vc) ∧ fX12_busy 814 x y k vr0 = some (r, vr) := by
  obtain ⟨e1, ⟨z, e2⟩, hP, hw, hg, hC, h4, hD⟩ := h
  unfold fX11_busy fX12_busy
  rw [e1, bd_s, e2, bd_s]
  try dsimp only
  obtain ⟨t, f1, f2⟩ := tr_T hP x
  rw [f1, bd_s]
  try dsimp only
  rcases f2 with ⟨x0, x1, x2, x3, f2⟩ | ⟨x3, f2⟩
  · obtain ⟨L, -, hL, hT⟩ := hP.2.1
    obtain ⟨m, hm⟩ := hT x x0 x1
    have m34 := hm.1.1.2.2.2
    have m1 := hm.1.1.2.2.1
    have b5 := (trc_e hg hD ⟨x0, x2⟩ hm).2.2.2.2.1
    have hlen := hm.2.2.2.2.2.2.1.2.2
    have hlb := (hm.2.2.2.2.2.2.1.1 (m - 1) (by omega) (by omega)).2
    have h7 : ∀ i, 0 ≤ i → i < m → vc (207 + 75 * x + 2 * i) 7 = vr 858 (34 * x + i) := fun i i0 i1 => (hm.2.2.2.2.2.2.1.1 i i0 i1).1
    have hz : vc (200 + 75 * x) 3 = m := hm.1.1.1
    have hz2 : vr 848 x = m := hm.1.1.2.1
    rw [f2, bd_s, if_neg (show ¬ t = 0 by omega), if_neg n10_, x3, b5, bd_s]
    try dsimp only
    obtain ⟨r, o1, o2⟩ := in_e y 0 (wr_ (vc (200 + 75 * x) 9 - 1)) vr
    rw [wr_id (show -2147483648 ≤ vc (200 + 75 * x) 9 - 1 ∧ vc (200 + 75 * x) 9 - 1 < 2147483648 by omega)] at o1 o2
    rw [wr_id (show -2147483648 ≤ vc (200 + 75 * x) 9 - 1 ∧ vc (200 + 75 * x) 9 - 1 < 2147483648 by omega), o1, bd_s]
    try dsimp only
    rcases o2 with ⟨rfl, o2⟩ | ⟨rfl, o2⟩
    · rw [if_neg (show ¬ y < 0 by omega), if_neg (show ¬ vc (200 + 75 * x) 9 ≤ y by omega), if_neg n10_]
      unfold fX11_isKind
      obtain ⟨r, o3, o4⟩ := in_e k 0 3 vr
      rw [o3]
      rcases o4 with ⟨rfl, o4⟩ | ⟨rfl, o4⟩
      · rw [if_neg (show ¬ k < 0 by omega), if_neg (show ¬ 4 ≤ k by omega), bd_s, bd_s, if_neg n10_, if_neg n10_]
        try dsimp only
        obtain ⟨s, e, -⟩ := lp_s (σ := Int) (α := Option (Int × V_) × Option (Int × V_)) (F := fun n i s => (fX11_busy_43 n y k (200 + 75 * x) s i vc, fX12_busy_44 n 814 x y k s i vr)) (K := fun s => (some (s, vc), some (s, vr))) (e := m) (I := fun i s => 0 ≤ i ∧ 0 ≤ s ∧ s ≤ i) (fun n i s h hi => by
          obtain ⟨i0, s0, s1⟩ := h
          have k3 := (IE_kind (hm.2.1 i i0 hi).1).1
          try dsimp only
          rw [fX11_busy_43, if_neg (show ¬ vc (200 + 75 * x) 3 ≤ i by omega), ck_t (by omega), ck_t (by omega), show 200 + 75 * x + 2 + (5 + 2 * i) = 207 + 75 * x + 2 * i by omega, h7 i i0 hi, k3, bd_s, fX12_busy_44, ck_t (show 0 ≤ x ∧ x < 8 from ⟨x0, x2⟩)]
          simp only [Int.reduceAdd]
          rw [if_neg (show ¬ vr 848 x ≤ i by omega), ix_ ⟨x0, x2⟩ ⟨i0, by omega⟩, ck_t (by omega), ck_t (by omega)]
          by_cases c : vr 858 (34 * x + i) = y
          · rw [if_pos c, if_pos c]
            by_cases c2 : vr 851 (34 * x + i) = k
            · rw [if_pos c2, if_pos c2, lt_d, lt_d, lt_d, lt_d, wr_id (by omega), wr_id (by omega)]
              exact ⟨s + 1, rfl, by omega, by omega, by omega⟩
            · rw [if_neg c2, if_neg c2, lt_d, lt_d, wr_id (by omega)]
              exact ⟨s, rfl, by omega, by omega, by omega⟩
          · rw [if_neg c, if_neg c, lt_d, lt_d, wr_id (by omega)]
            exact ⟨s, rfl, by omega, by omega, by omega⟩) (fun n s _ => by
          try dsimp only
          rw [fX11_busy_43, if_pos (show vc (200 + 75 * x) 3 ≤ m by omega), fX12_busy_44, ck_t (show 0 ≤ x ∧ x < 8 from ⟨x0, x2⟩)]
          simp only [Int.reduceAdd]
          rw [if_pos (show vr 848 x ≤ m by omega)]) m.toNat fu_ 0 0 ⟨by omega, by omega, by omega⟩ (by omega) (by unfold fu_; omega)
        obtain ⟨u1, u2⟩ := Prod.mk.inj e
        exact ⟨s, u1, u2⟩
      · rw [bd_s, if_pos (show (0 : Int) = 0 from rfl)]
        by_cases c : k < 0
        · rw [if_pos c, bd_s, if_pos rfl]; exact ⟨_, rfl, rfl⟩
        · rw [if_neg c, if_pos (show 4 ≤ k by omega), bd_s, if_pos rfl]; exact ⟨_, rfl, rfl⟩
    · rw [if_pos (show (0 : Int) = 0 from rfl)]
      by_cases c : y < 0
      · rw [if_pos c]; exact ⟨_, rfl, rfl⟩
      · rw [if_neg c, if_pos (show vc (200 + 75 * x) 9 ≤ y by omega)]; exact ⟨_, rfl, rfl⟩
  · rw [f2, bd_s, if_pos x3, if_pos rfl]
    exact ⟨_, rfl, rfl⟩
end QRB
