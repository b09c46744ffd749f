/-! layer 2: kinds and ways asked for -/
section QRW
variable {g vc vr : V_} {p : Int}
/-- the reference's program, whatever row it works on -/
def gz_ (g v : V_) : V_ := fun a k => if a = 11 then v 838 k else g a k
theorem cpW {v : V_} (h : D_ (cp_ v 837 0 838 0 47) g) : D_ v (gz_ g v) := by
  have e : ∀ a k, a ≠ 838 → cp_ v 837 0 838 0 47 a k = v a k := fun a k n => cp_o (by omega)
  obtain ⟨h1, h2, h3, h4, h5, h6⟩ := h
  rw [e 814 _ (by decide)] at h1 h2
  rw [e 823 _ (by decide)] at h2
  refine ⟨h1, h2, fun k k0 k1 => ?_, fun k k0 k1 => ?_, fun k k0 k1 => ?_, fun k _ _ => rfl⟩
  · have := h3 k k0 k1
    rw [e 814 _ (by decide), e 826 _ (by decide), e 832 _ (by decide), e 833 _ (by decide), e 834 _ (by decide)] at this
    exact this
  · have := h4 k k0 k1
    rw [e 814 _ (by decide), e 827 _ (by decide), e 828 _ (by decide), e 829 _ (by decide), e 830 _ (by decide), e 831 _ (by decide)] at this
    exact this
  · have := h5 k k0 k1
    rw [e 814 _ (by decide), e 835 _ (by decide)] at this
    exact this
theorem kind_Q (hC : C_ vc p g) (h837 : ∀ k, 14 ≤ k → k < 47 → vr 837 k = g 11 k) (x y : Int) : ∃ r, fX11_kind 1 x y vc = some (r, vc) ∧ fX12_kind 814 x y vr = some (r, vr) := by
  unfold fX11_kind fX12_kind fX11_isKind
  obtain ⟨r, o1, o2⟩ := in_e x 0 3 vr
  rw [o1]
  rcases o2 with ⟨rfl, o2⟩ | ⟨rfl, o2⟩
  · rw [if_neg (show ¬ x < 0 by omega), if_neg (show ¬ 4 ≤ x by omega), bd_s, bd_s, if_neg n10_, if_neg n10_]
    try dsimp only
    obtain ⟨r, o3, o4⟩ := in_e y 0 1 vr
    rw [o3, bd_s]
    try dsimp only
    rcases o4 with ⟨rfl, o4⟩ | ⟨rfl, o4⟩
    · rw [if_neg (show ¬ y < 0 by omega), if_pos (show y ≤ 1 by omega), if_neg n10_, show (1 : Int) + 139 = 140 from rfl]
      have hx : wr_ (wr_ (39 + wr_ (4 * y)) + x) = 39 + 4 * y + x := by
        rw [wr_id (show -2147483648 ≤ 4 * y ∧ 4 * y < 2147483648 by omega), wr_id (show -2147483648 ≤ 39 + 4 * y ∧ 39 + 4 * y < 2147483648 by omega), wr_id (by omega)]
      rw [hx, ck_t (by omega), show (814 : Int) + 23 = 837 from rfl, h837 _ (by omega) (by omega), cunit_e hC (by omega), clat_e hC (by omega), bd_s, bd_s]
      by_cases c : y = 0
      · rw [if_pos c, c, show 39 + 4 * 0 + x = 39 + x by omega]; exact ⟨_, rfl, rfl⟩
      · rw [if_neg c, show y = 1 by omega, show 39 + 4 * 1 + x = 43 + x by omega]; exact ⟨_, rfl, rfl⟩
    · rw [if_pos (show (0 : Int) = 0 from rfl)]
      by_cases c : y < 0
      · rw [if_pos c]; exact ⟨_, rfl, rfl⟩
      · rw [if_neg c, if_neg (show ¬ y ≤ 1 by omega)]; exact ⟨_, rfl, rfl⟩
  · by_cases c : x < 0
    · rw [if_pos c, bd_s, bd_s, if_pos rfl, if_pos rfl]; exact ⟨_, rfl, rfl⟩
    · rw [if_neg c, if_pos (show 4 ≤ x by omega), bd_s, bd_s, if_pos rfl, if_pos rfl]; exact ⟨_, rfl, rfl⟩
theorem gone_Q (hw : WF_ g) (hC : C_ vc p g) (h4 : vc 1 4 = p) (hD : D_ (cp_ vr 837 0 838 0 47) g) (h837 : ∀ k, 14 ≤ k → k < 47 → vr 837 k = g 11 k) (x y : Int) : ∃ r, fX11_gone 1 x y vc = some (r, vc) ∧ fX12_gone 814 x y vr = some (r, vr) := by
  have hn := hw.1
  have hpp := hC.1
  have e4 : vc 1 4 = PA_ ∨ vc 1 4 = PB_ := by rw [h4]; exact hpp
  have hW := cpW hD
  unfold fX11_gone fX12_gone fX11_isWay
  rw [ck_t e4, h4, hasB_e (CP_of hC), bd_s, isBlock_0 (cpD hD) hn, bd_s]
  try dsimp only
  by_cases cb : 0 ≤ x ∧ x < g 0 0
  · have hx8 : 0 ≤ x ∧ x < 8 := by omega
    have hE := (hw.2 x cb.1 cb.2).2.1
    have he : 0 ≤ g 7 x ∧ g 7 x ≤ 2 := by
      rcases hE with h | h | h <;> omega
    have W := waysOf_e hW hx8 (show 0 ≤ gz_ g vr 7 x ∧ gz_ g vr 7 x ≤ 2 from he)
    rw [show gz_ g vr 7 x = g 7 x from rfl] at W
    rw [if_pos cb, if_neg (show ¬ (1 : Int) = 0 from n10_), if_neg (show ¬ (1 : Int) = 0 from n10_), W, bd_s]
    try dsimp only
    obtain ⟨r, o1, o2⟩ := in_e y 0 (wr_ ((if g 7 x = 2 then 0 else g 7 x + 1) - 1)) vr
    have hx : wr_ ((if g 7 x = 2 then 0 else g 7 x + 1) - 1) = if g 7 x = 2 then -1 else g 7 x := by
      split
      · rfl
      · rw [wr_id (by omega)]; omega
    rw [o1, bd_s]
    try dsimp only
    rw [hx] at o2
    rcases o2 with ⟨rfl, o2⟩ | ⟨rfl, o2⟩
    · have n2 : g 7 x ≠ 2 := fun q => by rw [if_pos q] at o2; omega
      rw [if_neg n2] at o2
      have u : 0 ≤ g 10 (2 * x + y) := by
        rcases (by omega : y = 0 ∨ y = 1) with q | q
        · rw [q, Int.add_zero]; rcases hE with h | h | h <;> omega
        · rw [q]; rcases hE with h | h | h <;> omega
      rw [if_neg (show ¬ (1 : Int) = 0 from n10_)]
      have hj : wr_ (wr_ (22 + wr_ (2 * x)) + y) = 22 + (2 * x + y) := by
        rw [wr_id (show -2147483648 ≤ 2 * x ∧ 2 * x < 2147483648 by omega), wr_id (show -2147483648 ≤ 22 + 2 * x ∧ 22 + 2 * x < 2147483648 by omega), wr_id (by omega)]
        omega
      rw [hj, ck_t (by omega), show (814 : Int) + 23 = 837 from rfl, h837 _ (by omega) (by omega)]
      rw [if_neg (show ¬ y < 0 by omega), if_neg (show ¬ 2 ≤ y by omega), bd_s, if_neg n10_]
      try dsimp only
      rw [ck_t e4, h4, leadsTo_e hw hC cb (by omega), bd_s]
      try dsimp only
      rw [if_pos u, show (1 : Int) + 139 = 140 from rfl, cgone_e hC hx8 (by omega), bd_s]
      exact ⟨_, rfl, rfl⟩
    · rw [if_pos (show (0 : Int) = 0 from rfl)]
      by_cases c : y < 0
      · rw [if_pos c, bd_s, if_pos rfl]; exact ⟨_, rfl, rfl⟩
      · by_cases c2 : 2 ≤ y
        · rw [if_neg c, if_pos c2, bd_s, if_pos rfl]; exact ⟨_, rfl, rfl⟩
        · have u : ¬ 0 ≤ g 10 (2 * x + y) := by
            rcases (by omega : y = 0 ∨ y = 1) with q | q
            · rw [q, Int.add_zero]
              by_cases c3 : g 7 x = 2
              · rcases hE with h | h | h <;> omega
              · rw [if_neg c3] at o2; omega
            · rw [q]
              by_cases c3 : g 7 x = 2
              · rcases hE with h | h | h <;> omega
              · rw [if_neg c3] at o2; rcases hE with h | h | h <;> omega
          rw [if_neg c, if_neg c2, bd_s, if_neg n10_]
          try dsimp only
          rw [ck_t e4, h4, leadsTo_e hw hC cb (by omega), bd_s]
          try dsimp only
          rw [if_neg u]
          exact ⟨_, rfl, rfl⟩
  · rw [if_neg cb, if_pos (show (0 : Int) = 0 from rfl), if_pos (show (0 : Int) = 0 from rfl)]
    exact ⟨_, rfl, rfl⟩
end QRW
