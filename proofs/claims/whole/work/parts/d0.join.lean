/-! layer 2: where control comes together, in both -/
def ee_ (g : V_) (b q : Int) : Prop := ∃ c, 0 ≤ c ∧ c < g 0 0 ∧ c ≠ q ∧ (g 10 (2 * c) = b ∨ g 10 (2 * c + 1) = b)
theorem else_c {g v : V_} {p b q : Int} (hw : WF_ g) (hC : C_ v p g) : ∃ r, fX4_comesFromElsewhere b q p v = some (r, v) ∧ ((r = 1 ∧ ee_ g b q) ∨ (r = 0 ∧ ¬ ee_ g b q)) := by
  have hn := hw.1
  unfold fX4_comesFromElsewhere
  rcases lp_x (σ := Unit) (F := fun n c _ => fX4_comesFromElsewhere_2 n b q p c v) (K := fun _ => some (0, v)) (e := g 0 0) (I := fun c _ => 0 ≤ c ∧ ∀ d, 0 ≤ d → d < c → ¬ (d ≠ q ∧ (g 10 (2 * d) = b ∨ g 10 (2 * d + 1) = b))) (Q := fun out => out = some (1, v) ∧ ee_ g b q) (fun n c _ h hc => by
    obtain ⟨c0, h⟩ := h
    have nx : ¬ (c ≠ q ∧ (g 10 (2 * c) = b ∨ g 10 (2 * c + 1) = b)) → 0 ≤ c + 1 ∧ ∀ d, 0 ≤ d → d < c + 1 → ¬ (d ≠ q ∧ (g 10 (2 * d) = b ∨ g 10 (2 * d + 1) = b)) := fun x => ⟨by omega, fun d d0 d1 => by
      rcases (by omega : d < c ∨ d = c) with y | y
      · exact h d d0 y
      · rw [y]; exact x⟩
    rw [fX4_comesFromElsewhere_2, hC.2.1, if_neg (show ¬ g 0 0 ≤ c by omega), leadsTo_e hw hC ⟨c0, hc⟩ (by decide), bd_s]
    try dsimp only
    rw [Int.add_zero]
    by_cases k1 : g 10 (2 * c) = b
    · rw [if_pos k1]
      unfold fX4_comesFromElsewhere_30 fX4_comesFromElsewhere_35
      rw [if_neg n10_]
      by_cases k2 : c = q
      · rw [if_pos k2, lt_d, wr_id (by omega)]
        exact Or.inl ⟨(), rfl, nx fun x => x.1 k2⟩
      · rw [if_neg k2]
        exact Or.inr ⟨rfl, c, c0, hc, k2, Or.inl k1⟩
    · rw [if_neg k1, leadsTo_e hw hC ⟨c0, hc⟩ (by decide), bd_s]
      try dsimp only
      by_cases k3 : g 10 (2 * c + 1) = b
      · rw [if_pos k3]
        unfold fX4_comesFromElsewhere_30 fX4_comesFromElsewhere_35
        rw [if_neg n10_]
        by_cases k2 : c = q
        · rw [if_pos k2, lt_d, wr_id (by omega)]
          exact Or.inl ⟨(), rfl, nx fun x => x.1 k2⟩
        · rw [if_neg k2]
          exact Or.inr ⟨rfl, c, c0, hc, k2, Or.inr k3⟩
      · rw [if_neg k3]
        unfold fX4_comesFromElsewhere_35
        rw [if_pos (show (0 : Int) = 0 from rfl), lt_d, wr_id (by omega)]
        exact Or.inl ⟨(), rfl, nx fun x => x.2.elim k1 k3⟩) (fun n _ _ => by
    rw [fX4_comesFromElsewhere_2, hC.2.1, if_pos (Int.le_refl _)]) (g 0 0).toNat fu_ 0 () ⟨by decide, fun d d0 d1 => absurd d0 (by omega)⟩ (by omega) (by unfold fu_; omega) with ⟨_, e, -, h⟩ | ⟨e, h⟩
  · exact ⟨0, e, Or.inr ⟨rfl, fun ⟨c, c0, c1, c2, c3⟩ => h c c0 c1 ⟨c2, c3⟩⟩⟩
  · exact ⟨1, e, Or.inl ⟨rfl, h⟩⟩
theorem oth_41 {g v : V_} {b q c : Int} (hw : WF_ g) (hD : D_ v g) (hb : 0 ≤ b) (hc : 0 ≤ c ∧ c < g 0 0) (k : Int → Int → Int → Int → V_ → Option (Int × V_)) : fX12_isOtherwise_41 k fu_ 814 b q c 0 v = if c ≠ q ∧ (g 10 (2 * c) = b ∨ g 10 (2 * c + 1) = b) then some (1, v) else k 814 b q (c + 1) v := by
  have hn := hw.1
  have hE := (hw.2 c hc.1 hc.2).2.1
  have he : 0 ≤ g 7 c ∧ g 7 c ≤ 2 := by
    rcases hE with h | h | h <;> omega
  have W := waysOf_e hD (b := c) (by omega) he
  have T : ∀ w, 0 ≤ w → w < 2 → fX12_wayTo 814 c w v = some (g 10 (2 * c + w), v) := fun w w0 w1 => wayTo_e hD (by omega) ⟨w0, w1⟩
  have T0 := T 0 (by decide) (by decide)
  have T1 := T 1 (by decide) (by decide)
  rw [Int.add_zero] at T0
  rw [show fu_ = 99997 + 1 + 1 + 1 from rfl]
  rcases (by omega : g 7 c = 0 ∨ g 7 c = 1 ∨ g 7 c = 2) with e | e | e
  · have u : g 10 (2 * c + 1) = -2 := by rcases hE with h | h | h <;> omega
    have hW : fX12_waysOf 814 c v = some (1, v) := by rw [W, e, if_neg (by decide)]; rfl
    rw [fX12_isOtherwise_41, hW, bd_s, if_neg (show ¬ (1 : Int) ≤ 0 by decide)]
    by_cases k1 : c = q
    · rw [if_pos k1, lt_d, fX12_isOtherwise_41]
      try dsimp only
      rw [hW, bd_s, if_pos (show (1 : Int) ≤ wr_ (0 + 1) by decide), lt_d, wr_id (by omega), if_neg (fun x => x.1 k1)]
    · rw [if_neg k1, T0, bd_s]
      by_cases k2 : g 10 (2 * c) = b
      · rw [if_pos k2, if_pos ⟨k1, Or.inl k2⟩]
      · rw [if_neg k2, lt_d, fX12_isOtherwise_41]
        try dsimp only
        rw [hW, bd_s, if_pos (show (1 : Int) ≤ wr_ (0 + 1) by decide), lt_d, wr_id (by omega), if_neg (fun x => x.2.elim k2 (by omega))]
  · have hW : fX12_waysOf 814 c v = some (2, v) := by rw [W, e, if_neg (by decide)]; rfl
    rw [fX12_isOtherwise_41, hW, bd_s, if_neg (show ¬ (2 : Int) ≤ 0 by decide)]
    by_cases k1 : c = q
    · rw [if_pos k1, lt_d, fX12_isOtherwise_41]
      try dsimp only
      rw [hW, bd_s, if_neg (show ¬ (2 : Int) ≤ wr_ (0 + 1) by decide), if_pos k1, lt_d, fX12_isOtherwise_41]
      try dsimp only
      rw [hW, bd_s, if_pos (show (2 : Int) ≤ wr_ (wr_ (0 + 1) + 1) by decide), lt_d, wr_id (by omega), if_neg (fun x => x.1 k1)]
    · rw [if_neg k1, T0, bd_s]
      by_cases k2 : g 10 (2 * c) = b
      · rw [if_pos k2, if_pos ⟨k1, Or.inl k2⟩]
      · rw [if_neg k2, lt_d, fX12_isOtherwise_41]
        try dsimp only
        rw [hW, bd_s, if_neg (show ¬ (2 : Int) ≤ wr_ (0 + 1) by decide), if_neg k1, show wr_ (0 + 1) = 1 by decide, T1, bd_s]
        try dsimp only
        by_cases k3 : g 10 (2 * c + 1) = b
        · rw [if_pos k3, if_pos ⟨k1, Or.inr k3⟩]
        · rw [if_neg k3, lt_d, fX12_isOtherwise_41]
          try dsimp only
          rw [hW, bd_s, if_pos (show (2 : Int) ≤ wr_ (1 + 1) by decide), lt_d, wr_id (by omega), if_neg (fun x => x.2.elim k2 k3)]
  · have u : g 10 (2 * c) = -2 ∧ g 10 (2 * c + 1) = -2 := by rcases hE with h | h | h <;> omega
    have hW : fX12_waysOf 814 c v = some (0, v) := by rw [W, e, if_pos (by decide)]
    rw [fX12_isOtherwise_41, hW, bd_s, if_pos (show (0 : Int) ≤ 0 by decide), lt_d, wr_id (by omega), if_neg (fun x => by omega)]
theorem oth_e {g v : V_} {b q s i : Int} (hw : WF_ g) (hD : D_ v g) (hb : 0 ≤ b ∧ b < 8) (hs : 0 ≤ s ∧ s < 8) (hi : 1 ≤ i ∧ i < 4) (h1 : v 844 b = s) (h2 : v 845 b = i) (h3 : v 846 (4 * s + i - 1) = q) : ∃ r, fX12_isOtherwise 814 b v = some (r, v) ∧ ((r = 1 ∧ (b = 0 ∨ ee_ g b q)) ∨ (r = 0 ∧ ¬ (b = 0 ∨ ee_ g b q))) := by
  have hn := hw.1
  unfold fX12_isOtherwise
  simp only [Int.reduceAdd]
  have hx : wr_ (wr_ (wr_ (4 * v 844 b) + v 845 b) - 1) = 4 * s + i - 1 := by rw [h1, h2, wr_id (show -2147483648 ≤ 4 * s ∧ 4 * s < 2147483648 by omega), wr_id (show -2147483648 ≤ 4 * s + i ∧ 4 * s + i < 2147483648 by omega), wr_id (show -2147483648 ≤ 4 * s + i - 1 ∧ 4 * s + i - 1 < 2147483648 by omega)]
  rw [ck_t hb, ck_t hb, ck_t (by rw [hx]; omega), lt_d, hx, h3]
  have hz : v 823 (v 814 18) = g 0 0 := hD.2.1
  rcases lp_x (σ := Unit) (F := fun n c _ => fX12_isOtherwise_25 n 814 b q c v) (K := fun _ => if b = 0 then some (1, v) else some (0, v)) (e := g 0 0) (I := fun c _ => 0 ≤ c ∧ ∀ d, 0 ≤ d → d < c → ¬ (d ≠ q ∧ (g 10 (2 * d) = b ∨ g 10 (2 * d + 1) = b))) (Q := fun out => out = some (1, v) ∧ ee_ g b q) (fun n c _ h hc => by
    obtain ⟨c0, h⟩ := h
    rw [fX12_isOtherwise_25, ck_t hD.1]
    simp only [Int.reduceAdd]
    rw [if_neg (show ¬ v 823 (v 814 18) ≤ c by omega), oth_41 hw hD hb.1 ⟨c0, hc⟩]
    by_cases k : c ≠ q ∧ (g 10 (2 * c) = b ∨ g 10 (2 * c + 1) = b)
    · rw [if_pos k]
      exact Or.inr ⟨rfl, c, c0, hc, k⟩
    · rw [if_neg k]
      exact Or.inl ⟨(), rfl, by omega, fun d d0 d1 => by
        rcases (by omega : d < c ∨ d = c) with y | y
        · exact h d d0 y
        · rw [y]; exact k⟩) (fun n _ _ => by
    rw [fX12_isOtherwise_25, ck_t hD.1]
    simp only [Int.reduceAdd]
    rw [if_pos (show v 823 (v 814 18) ≤ g 0 0 by omega)]) (g 0 0).toNat fu_ 0 () ⟨by decide, fun d d0 d1 => absurd d0 (by omega)⟩ (by omega) (by unfold fu_; omega) with ⟨_, e, -, h⟩ | ⟨e, h⟩
  · rw [e]
    by_cases k : b = 0
    · rw [if_pos k]; exact ⟨1, rfl, Or.inl ⟨rfl, Or.inl k⟩⟩
    · rw [if_neg k]; exact ⟨0, rfl, Or.inr ⟨rfl, fun x => x.elim k fun ⟨c, c0, c1, c2, c3⟩ => h c c0 c1 ⟨c2, c3⟩⟩⟩
  · exact ⟨1, e, Or.inl ⟨rfl, Or.inr h⟩⟩
