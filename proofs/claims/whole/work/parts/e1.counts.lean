/-! layer 2: growth and counts asked for -/
section QRK
variable {g vc0 vr0 vc vr : V_} {p : Int}
theorem growth_Q (h : HP_ g p vc0 vr0 vc vr) (hB : HB_ g p vc0 vr0 vc) (x : Int) : ∃ r vc1, fX11_growth 1 x vc0 = some (r, vc1) ∧ fX12_growth 814 x vr0 = some (r, vr) ∧ (vc1 = vc0 ∨ vc1 = vc) := by
  obtain ⟨e1, ⟨z, e2⟩, hP, hw, hg, hC, h4, hD⟩ := h
  obtain ⟨hC0, h40, -, -⟩ := hB
  have hn := hw.1
  have hpp := hC0.1
  have e4 : vc0 1 4 = PA_ ∨ vc0 1 4 = PB_ := by rw [h40]; exact hpp
  have e5 : vc 1 4 = PA_ ∨ vc 1 4 = PB_ := by rw [h4]; exact hpp
  unfold fX11_growth fX12_growth
  rw [e2, bd_s]
  try dsimp only
  by_cases q : x = 0
  · have hz : vr 823 (vr 814 18) = g 0 0 := hD.2.1
    rw [if_pos q, if_pos q, ck_t e4, h40, allLines_e hw hC0, bd_s, linesAll_e hw hD, bd_s]
    try dsimp only
    rw [ck_t e4, ck_t hD.1, h40, hC0.2.1, show (814 : Int) + 9 = 823 from rfl, hz]
    exact ⟨_, _, rfl, rfl, Or.inl rfl⟩
  rw [if_neg q, if_neg q]
  by_cases q : x = 1
  · obtain ⟨r, g1, g2⟩ := grown_T hw hC hD hP
    rw [if_pos q, if_pos q, e1, bd_s]
    try dsimp only
    rw [ck_t e5, h4, g1, bd_s, g2, bd_s]
    exact ⟨_, _, rfl, rfl, Or.inr rfl⟩
  rw [if_neg q, if_neg q]
  by_cases q : x = 2
  · obtain ⟨-, -, -, -, -, r, g1, g2⟩ := sums_Q hg hD hP
    rw [if_pos q, if_pos q, e1, bd_s]
    try dsimp only
    rw [g1, bd_s, g2]
    exact ⟨_, _, rfl, rfl, Or.inr rfl⟩
  rw [if_neg q, if_neg q]
  by_cases q : x = 3
  · rw [if_pos q, if_pos q, e1, bd_s, hP.2.2.1, bd_s]
    exact ⟨_, _, rfl, rfl, Or.inr rfl⟩
  rw [if_neg q, if_neg q]
  exact ⟨_, _, rfl, rfl, Or.inl rfl⟩
/-- what else a count reads -/
def HK_ (g vc0 vr : V_) : Prop := vc0 1 1 = vr 814 2 ∧ vc0 142 4 = vr 814 77 ∧ (∀ x, 0 ≤ x → x < 3 → (vc0 188 x = 0 ∨ vc0 188 x = 1) ∧ vr 871 x = vc0 188 x) ∧ ∀ k, 14 ≤ k → k < 47 → vr 837 k = g 11 k
theorem begun_sum (hC : C_ vc0 p g) (hg : RG_ g) (h837 : ∀ k, 14 ≤ k → k < 47 → vr 837 k = g 11 k) : ∃ r, fX7_allBegun 140 vc0 = some (r, vc0) ∧ fX12_begunAll 814 vr = some (r, vr) := by
  unfold fX7_allBegun fX12_begunAll
  obtain ⟨a, e, -⟩ := lp_s (σ := Int) (α := Option (Int × V_) × Option (Int × V_)) (F := fun n t a => (fX7_allBegun_4 n 140 a t vc0, fX12_begunAll_4 n 814 a t vr)) (K := fun a => (some (a, vc0), some (a, vr))) (e := 8) (I := fun t _ => 0 ≤ t) (fun n t a h ht => by
    have hx : wr_ (14 + t) = 14 + t := wr_id (by omega)
    try dsimp only
    rw [fX7_allBegun_4, if_neg (show ¬ (8 : Int) ≤ t by omega), cbegun_e hC ⟨h, ht⟩, bd_s, lt_d, lt_d, fX12_begunAll_4, if_neg (show ¬ (8 : Int) ≤ t by omega), hx, ck_t (by omega), lt_d, lt_d]
    simp only [Int.reduceAdd]
    rw [h837 _ (by omega) (by omega), wr_id (show -2147483648 ≤ t + 1 ∧ t + 1 < 2147483648 by omega)]
    exact ⟨_, rfl, by omega⟩) (fun n a _ => by
    try dsimp only
    rw [fX7_allBegun_4, if_pos (by decide), fX12_begunAll_4, if_pos (by decide)]) 8 fu_ 0 0 (by decide) (by decide) (by decide)
  obtain ⟨u1, u2⟩ := Prod.mk.inj e
  exact ⟨a, u1, u2⟩
theorem held_sum (h : ∀ x, 0 ≤ x → x < 3 → (vc0 188 x = 0 ∨ vc0 188 x = 1) ∧ vr 871 x = vc0 188 x) : ∃ r, fX0_heldSlots 142 vc0 = some (r, vc0) ∧ (if vr 871 0 = 0 then fX12_count_153 814 0 vr else fX12_count_153 814 1 vr) = some (r, vr) := by
  obtain ⟨a0, b0⟩ := h 0 (by decide) (by decide)
  obtain ⟨a1, b1⟩ := h 1 (by decide) (by decide)
  obtain ⟨a2, b2⟩ := h 2 (by decide) (by decide)
  have st : ∀ (n : Nat) (a x : Int), 0 ≤ x → x < 3 → fX0_heldSlots_4 (n + 1) 142 a x vc0 = fX0_heldSlots_4 n 142 (wr_ (a + vc0 188 x)) (x + 1) vc0 := fun n a x x0 x1 => by
    rw [fX0_heldSlots_4, if_neg (by omega), ck_t (by omega), show (142 : Int) + 46 = 188 from rfl]
    unfold fX0_heldSlots_24
    rcases (h x x0 x1).1 with w | w
    · rw [if_pos w, w, lt_d, lt_d, wr_id (show -2147483648 ≤ x + 1 ∧ x + 1 < 2147483648 by omega)]
    · rw [if_neg (show ¬ vc0 188 x = 0 by omega), w, lt_d, lt_d, wr_id (show -2147483648 ≤ x + 1 ∧ x + 1 < 2147483648 by omega)]
  have e3 : fX0_heldSlots_4 (99996 + 1) 142 (wr_ (wr_ (wr_ (0 + vc0 188 0) + vc0 188 1) + vc0 188 2)) 3 vc0 = some (wr_ (wr_ (wr_ (0 + vc0 188 0) + vc0 188 1) + vc0 188 2), vc0) := by
    rw [fX0_heldSlots_4, if_pos (by decide)]
  refine ⟨wr_ (wr_ (wr_ (0 + vc0 188 0) + vc0 188 1) + vc0 188 2), ?_, ?_⟩
  · unfold fX0_heldSlots
    rw [show fu_ = 99996 + 1 + 1 + 1 + 1 from rfl, st _ _ 0 (by decide) (by decide), show (0 : Int) + 1 = 1 from rfl, st _ _ 1 (by decide) (by decide), show (1 : Int) + 1 = 2 from rfl, st _ _ 2 (by decide) (by decide), show (2 : Int) + 1 = 3 from rfl]
    exact e3
  · unfold fX12_count_153 fX12_count_167
    rw [show (814 : Int) + 57 = 871 from rfl]
    rcases a0 with a0 | a0 <;> rcases a1 with a1 | a1 <;> rcases a2 with a2 | a2 <;> simp only [b0, b1, b2, a0, a1, a2] <;> rfl
theorem count_Q (h : HP_ g p vc0 vr0 vc vr) (hB : HB_ g p vc0 vr0 vc) (hK : HK_ g vc0 vr) (x : Int) : ∃ r vc1, fX11_count 1 x vc0 = some (r, vc1) ∧ fX12_count 814 x vr0 = some (r, vr) ∧ (vc1 = vc0 ∨ vc1 = vc) := by
  obtain ⟨e1, ⟨z, e2⟩, hP, hw, hg, hC, h4, hD⟩ := h
  obtain ⟨hC0, h40, -, -⟩ := hB
  obtain ⟨k1, k2, k3, k4⟩ := hK
  have hn := hw.1
  have hpp := hC0.1
  have e4 : vc0 1 4 = PA_ ∨ vc0 1 4 = PB_ := by rw [h40]; exact hpp
  obtain ⟨⟨r0, s0, s0'⟩, ⟨r1, s1, s1'⟩, ⟨r2, s2, s2'⟩, ⟨r3, s3, s3'⟩, ⟨r4, s4, s4'⟩, -⟩ := sums_Q hg hD hP
  unfold fX11_count fX12_count
  rw [e2, bd_s]
  try dsimp only
  by_cases q : x = 0
  · have hz : vr 823 (vr 814 18) = g 0 0 := hD.2.1
    rw [if_pos q, if_pos q, ck_t e4, h40, hC0.2.1, ck_t hD.1, show (814 : Int) + 9 = 823 from rfl, hz]
    exact ⟨_, _, rfl, rfl, Or.inl rfl⟩
  rw [if_neg q, if_neg q]
  by_cases q : x = 1
  · rw [if_pos q, if_pos q, ck_t e4, h40, allLines_e hw hC0, bd_s, linesAll_e hw hD, bd_s]
    exact ⟨_, _, rfl, rfl, Or.inl rfl⟩
  rw [if_neg q, if_neg q]
  by_cases q : x = 2
  · have e38 : vr 838 38 = g 11 38 := hD.2.2.2.2.2 38 (by decide) (by decide)
    rw [if_pos q, if_pos q, show (1 : Int) + 139 = 140 from rfl, cren_e hC0, bd_s]
    simp only [Int.reduceAdd]
    rw [e38]
    rcases hg.1 with w | w
    · rw [if_pos (show (if g 11 38 = 1 then (1 : Int) else 0) = 0 by rw [if_neg (by omega)]), w]
      exact ⟨_, _, rfl, rfl, Or.inl rfl⟩
    · rw [if_neg (show ¬ (if g 11 38 = 1 then (1 : Int) else 0) = 0 by rw [if_pos w]; decide), w]
      exact ⟨_, _, rfl, rfl, Or.inl rfl⟩
  rw [if_neg q, if_neg q]
  by_cases q : x = 3
  · obtain ⟨r, g1, g2⟩ := begun_sum (vc0 := vc0) (vr := vr) hC0 hg k4
    rw [if_pos q, if_pos q, show (1 : Int) + 139 = 140 from rfl, g1, bd_s, g2, bd_s]
    exact ⟨_, _, rfl, rfl, Or.inl rfl⟩
  rw [if_neg q, if_neg q]
  by_cases q : x = 4
  · rw [if_pos q, if_pos q, e1, bd_s]
    try dsimp only
    rw [s0, bd_s, s0', bd_s]
    exact ⟨_, _, rfl, rfl, Or.inr rfl⟩
  rw [if_neg q, if_neg q]
  by_cases q : x = 5
  · rw [if_pos q, if_pos q, e1, bd_s]
    try dsimp only
    rw [s1, bd_s, s1', bd_s]
    exact ⟨_, _, rfl, rfl, Or.inr rfl⟩
  rw [if_neg q, if_neg q]
  by_cases q : x = 6
  · rw [if_pos q, if_pos q, e1, bd_s]
    try dsimp only
    rw [s2, bd_s, s2', bd_s]
    exact ⟨_, _, rfl, rfl, Or.inr rfl⟩
  rw [if_neg q, if_neg q]
  by_cases q : x = 7
  · rw [if_pos q, if_pos q, e1, bd_s]
    try dsimp only
    rw [s3, bd_s, s3', bd_s]
    exact ⟨_, _, rfl, rfl, Or.inr rfl⟩
  rw [if_neg q, if_neg q]
  by_cases q : x = 8
  · rw [if_pos q, if_pos q, k1]
    exact ⟨_, _, rfl, rfl, Or.inl rfl⟩
  rw [if_neg q, if_neg q]
  by_cases q : x = 9
  · rw [if_pos q, if_pos q, show (1 : Int) + 141 = 142 from rfl, k2]
    exact ⟨_, _, rfl, rfl, Or.inl rfl⟩
  rw [if_neg q, if_neg q]
  by_cases q : x = 10
  · rw [if_pos q, if_pos q, e1, bd_s]
    try dsimp only
    rw [s4, bd_s, s4', bd_s]
    exact ⟨_, _, rfl, rfl, Or.inr rfl⟩
  rw [if_neg q, if_neg q]
  by_cases q : x = 11
  · obtain ⟨r, g1, g2⟩ := held_sum (vc0 := vc0) (vr := vr) k3
    rw [if_pos q, if_pos q, show (1 : Int) + 141 = 142 from rfl, g1, bd_s, show (814 : Int) + 57 = 871 from rfl, g2]
    exact ⟨_, _, rfl, rfl, Or.inl rfl⟩
  rw [if_neg q, if_neg q]
  exact ⟨_, _, rfl, rfl, Or.inl rfl⟩
end QRK
