/-! layer 2: blocks asked for -/
/-- what holds before either plans -/
def HB_ (g : V_) (p : Int) (vc0 vr0 vc : V_) : Prop := C_ vc0 p g ∧ vc0 1 4 = p ∧ D_ (cp_ vr0 837 0 838 0 47) g ∧ ∀ b, 0 ≤ b → b < 8 → vc (p + 5) b = vc0 (p + 5) b
section QRC
variable {g vc0 vr0 vc vr : V_} {p : Int}
theorem cpD {v : V_} (h : D_ (cp_ v 837 0 838 0 47) g) : (0 ≤ v 814 18 ∧ v 814 18 < 2) ∧ v 823 (v 814 18) = g 0 0 := by
  obtain ⟨h1, h2, -⟩ := h
  rw [cp_o (by omega)] at h1
  rw [cp_o (by omega), cp_o (by omega)] at h2
  exact ⟨h1, h2⟩
theorem isBlock_0 {v : V_} {b : Int} (h : (0 ≤ v 814 18 ∧ v 814 18 < 2) ∧ v 823 (v 814 18) = g 0 0) (hn : 0 ≤ g 0 0 ∧ g 0 0 ≤ 8) : fX12_isBlock 814 b v = some (if 0 ≤ b ∧ b < g 0 0 then 1 else 0, v) := by
  obtain ⟨h1, h2⟩ := h
  simp (disch := omega) only [fX12_isBlock, ck_t, Int.reduceAdd, h2, wr_id, fX12_in]
  by_cases c1 : b < 0
  · rw [if_pos c1, bd_s, ck_t (Or.inl rfl), if_neg (by omega)]
  · rw [if_neg c1]
    by_cases c2 : g 0 0 - 1 < b
    · rw [if_pos c2, bd_s, ck_t (Or.inl rfl), if_neg (by omega)]
    · rw [if_neg c2, bd_s, ck_t (Or.inr rfl), if_pos (by omega)]
theorem block_Q (h : HP_ g p vc0 vr0 vc vr) (hB : HB_ g p vc0 vr0 vc) (x y : Int) : ∃ r vc1 vr1, fX11_block 1 x y vc0 = some (r, vc1) ∧ fX12_block 814 x y vr0 = some (r, vr1) ∧ (vc1 = vc0 ∨ vc1 = vc) ∧ (vr1 = vr0 ∨ vr1 = vr) := by
  obtain ⟨e1, ⟨z, e2⟩, hP, hw, hg, hC, h4, hD⟩ := h
  obtain ⟨hC0, h40, hD0, hl⟩ := hB
  have hn := hw.1
  have hpp := hC0.1
  have e4 : vc0 1 4 = PA_ ∨ vc0 1 4 = PB_ := by rw [h40]; exact hpp
  unfold fX11_block fX12_block
  rw [ck_t e4, h40, hasB_e (CP_of hC0), bd_s, isBlock_0 (cpD hD0) hn, bd_s]
  try dsimp only
  by_cases cb : 0 ≤ x ∧ x < g 0 0
  · have hx8 : 0 ≤ x ∧ x < 8 := by omega
    obtain ⟨b1, b2, b3, b4, b5⟩ := hC0.2.2.1 x cb.1 cb.2
    have hE := (hw.2 x cb.1 cb.2).2.1
    have he : 0 ≤ g 7 x ∧ g 7 x ≤ 2 := by
      rcases hE with h | h | h <;> omega
    rw [if_pos cb, if_neg (show ¬ (1 : Int) = 0 from n10_), if_neg (show ¬ (1 : Int) = 0 from n10_)]
    obtain ⟨r, o1, o2⟩ := in_e y 0 8 vr0
    rw [o1, bd_s]
    try dsimp only
    rcases o2 with ⟨rfl, o2⟩ | ⟨rfl, o2⟩
    · rw [if_neg (show ¬ (1 : Int) = 0 from n10_), e2, bd_s]
      try dsimp only
      by_cases q : y = 0
      · rw [if_pos q, if_pos q, ck_t e4, ck_t hx8, linesOf_e hD hx8, bd_s, h40, b1]
        exact ⟨_, _, _, rfl, rfl, Or.inl rfl, Or.inr rfl⟩
      rw [if_neg q, if_neg q]
      by_cases q : y = 1
      · rw [if_pos q, if_pos q, ck_t e4, ck_t hx8, endOf_e hD hx8, bd_s, h40, show p + 3 + (53 + 1 * x) = p + 56 + x by omega, b2.1, wr_id (by omega), show 7 + g 7 x - 7 = g 7 x by omega]
        exact ⟨_, _, _, rfl, rfl, Or.inl rfl, Or.inr rfl⟩
      rw [if_neg q, if_neg q]
      by_cases q : y = 2
      · rw [if_pos q, if_pos q, show (1 : Int) + 139 = 140 from rfl, cbegun_e hC0 hx8, bd_s, begunOf_e hD hx8, bd_s]
        exact ⟨_, _, _, rfl, rfl, Or.inl rfl, Or.inr rfl⟩
      rw [if_neg q, if_neg q]
      by_cases q : y = 3
      · rw [if_pos q, if_pos q, ck_t e4, q, show wr_ (3 - 3) = 0 by decide, h40, leadsTo_e (w := 0) hw hC0 cb (by decide), bd_s, waysOf_e hD hx8 he, bd_s]
        try dsimp only
        by_cases c : g 7 x = 2
        · have u : g 10 (2 * x + 0) = -2 := by rw [Int.add_zero]; rcases hE with h | h | h <;> omega
          rw [if_pos (show (if g 7 x = 2 then (0 : Int) else g 7 x + 1) ≤ 0 by rw [if_pos c]; decide), u]
          exact ⟨_, _, _, rfl, rfl, Or.inl rfl, Or.inr rfl⟩
        · rw [if_neg (show ¬ (if g 7 x = 2 then (0 : Int) else g 7 x + 1) ≤ 0 by rw [if_neg c]; omega), wayTo_e hD hx8 (by decide), bd_s]
          exact ⟨_, _, _, rfl, rfl, Or.inl rfl, Or.inr rfl⟩
      rw [if_neg q, if_neg q]
      by_cases q : y = 4
      · rw [if_pos q, if_pos q, ck_t e4, q, show wr_ (4 - 3) = 1 by decide, h40, leadsTo_e (w := 1) hw hC0 cb (by decide), bd_s, waysOf_e hD hx8 he, bd_s]
        try dsimp only
        by_cases c : g 7 x = 1
        · rw [if_neg (show ¬ (if g 7 x = 2 then (0 : Int) else g 7 x + 1) ≤ 1 by rw [if_neg (by omega)]; omega), wayTo_e hD hx8 (by decide), bd_s]
          exact ⟨_, _, _, rfl, rfl, Or.inl rfl, Or.inr rfl⟩
        · have u : g 10 (2 * x + 1) = -2 := by rcases hE with h | h | h <;> omega
          rw [if_pos (show (if g 7 x = 2 then (0 : Int) else g 7 x + 1) ≤ 1 by split <;> omega), u]
          exact ⟨_, _, _, rfl, rfl, Or.inl rfl, Or.inr rfl⟩
      rw [if_neg q, if_neg q]
      by_cases q : y = 5
      · obtain ⟨L, -, hL, -⟩ := hP.2.1
        have w := hL x cb.1 cb.2
        rw [if_pos q, if_pos q, ck_t e4, ck_t hx8, ck_t hx8, h40, ← hl x hx8.1 hx8.2, w.1, show (814 : Int) + 29 = 843 from rfl, w.2.1]
        exact ⟨_, _, _, rfl, rfl, Or.inl rfl, Or.inr rfl⟩
      rw [if_neg q, if_neg q]
      have tp := hP.1.2.2.1 x cb.1 cb.2
      have tq := hP.1.2.2.2.2 x cb.1 cb.2 tp.2.1 tp.2.2
      by_cases q : y = 6
      · rw [if_pos q, if_pos q, e1, bd_s]
        unfold fX4_traceOf
        try dsimp only
        rw [ck_t hx8, bd_s, ck_t hx8, show (189 : Int) + 2 = 191 from rfl, tp.1]
        exact ⟨_, _, _, rfl, rfl, Or.inr rfl, Or.inr rfl⟩
      rw [if_neg q, if_neg q]
      by_cases q : y = 7
      · rw [if_pos q, if_pos q, e1, bd_s]
        unfold fX4_placeOf
        try dsimp only
        rw [ck_t hx8, bd_s, ck_t hx8, show (189 : Int) + 3 = 192 from rfl, tq.2.2.2]
        exact ⟨_, _, _, rfl, rfl, Or.inr rfl, Or.inr rfl⟩
      rw [if_neg q, if_neg q, if_pos (show y = 8 by omega), e1, bd_s, hP.2.2.1, bd_s]
      unfold fX4_joins
      try dsimp only
      have bt := bit_e (x := vc 189 1) (r := x) (by have := hP.2.2.2.1.1; omega) (by omega)
      by_cases c : bA_ (sR_ (vc 189 1) x) 1 = 1
      · rw [if_pos c, bd_s, if_neg n10_, c]
        exact ⟨_, _, _, rfl, rfl, Or.inr rfl, Or.inr rfl⟩
      · have u : bA_ (sR_ (vc 189 1) x) 1 = 0 := by
          rw [bt] at c ⊢
          split at c
          · exact absurd rfl c
          · rename_i h; rw [if_neg h]
        rw [if_neg c, bd_s, if_pos (show (0 : Int) = 0 from rfl), u]
        exact ⟨_, _, _, rfl, rfl, Or.inr rfl, Or.inr rfl⟩
    · rw [if_pos (show (0 : Int) = 0 from rfl), if_neg (show ¬ y = 0 by omega), if_neg (show ¬ y = 1 by omega), if_neg (show ¬ y = 2 by omega), if_neg (show ¬ y = 3 by omega), if_neg (show ¬ y = 4 by omega), if_neg (show ¬ y = 5 by omega), if_neg (show ¬ y = 6 by omega), if_neg (show ¬ y = 7 by omega), if_neg (show ¬ y = 8 by omega)]
      exact ⟨_, _, _, rfl, rfl, Or.inl rfl, Or.inl rfl⟩
  · rw [if_neg cb, if_pos (show (0 : Int) = 0 from rfl), if_pos (show (0 : Int) = 0 from rfl)]
    exact ⟨_, _, _, rfl, rfl, Or.inl rfl, Or.inl rfl⟩
end QRC
