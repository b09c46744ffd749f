/-! layer 2: likely ways, seeds -/
def mw_ (g : V_) (b : Int) : Int := if g 7 b = 2 then -1 else if g 7 b = 1 then (if g 11 (22 + (2 * b + 1)) ≤ g 11 (22 + (2 * b + 0)) then 0 else 1) else 0
theorem mw_ok {g : V_} {b : Int} (hw : WF_ g) (hb : 0 ≤ b ∧ b < g 0 0) : (mw_ g b = -1 ∧ g 7 b = 2) ∨ (0 ≤ mw_ g b ∧ mw_ g b < 2 ∧ 0 ≤ g 10 (2 * b + mw_ g b) ∧ g 10 (2 * b + mw_ g b) < g 0 0) := by
  obtain ⟨-, he, -⟩ := hw.2 b hb.1 hb.2
  unfold mw_
  rcases he with ⟨q0, q1, q2, q3, q4, q5⟩ | ⟨q0, q1, q2, q3, q4, q5, q6⟩ | ⟨q0, q1, q2, q3, q4⟩
  · rw [if_neg (by omega), if_neg (by omega)]
    exact Or.inr ⟨by decide, by decide, by rw [Int.add_zero]; exact q3, by rw [Int.add_zero]; exact q4⟩
  · rw [if_neg (by omega), if_pos q0]
    split
    · exact Or.inr ⟨by decide, by decide, by rw [Int.add_zero]; exact q3, by rw [Int.add_zero]; exact q4⟩
    · exact Or.inr ⟨by decide, by decide, q5, q6⟩
  · rw [if_pos q0]
    exact Or.inl ⟨rfl, q0⟩
section WAYS
variable {v g : V_} {b p to : Int}
theorem cway_e (hw : WF_ g) (hC : C_ v p g) (hb : 0 ≤ b ∧ b < g 0 0) : fX4_likelyWay b p 140 v = some (mw_ g b, v) := by
  have hn := hw.1
  obtain ⟨-, he, -⟩ := hw.2 b hb.1 hb.2
  unfold fX4_likelyWay mw_
  rw [leadsTo_e hw hC hb (by decide), bd_s, Int.add_zero]
  try dsimp only
  rcases he with ⟨q0, q1, q2, q3, q4, q5⟩ | ⟨q0, q1, q2, q3, q4, q5, q6⟩ | ⟨q0, q1, q2, q3, q4⟩
  · rw [if_pos q3, leadsTo_e hw hC hb (by decide), bd_s, if_neg (show ¬ 0 ≤ g 10 (2 * b + 1) by omega), if_neg (show ¬ g 7 b = 2 by omega), if_neg (show ¬ g 7 b = 1 by omega)]
  · rw [if_pos q3, leadsTo_e hw hC hb (by decide), bd_s, if_pos q5, cgone_e hC (by omega) (by decide), bd_s, cgone_e hC (by omega) (by decide), bd_s, if_neg (show ¬ g 7 b = 2 by omega), if_pos q0]
    try dsimp only
    rw [Int.add_zero]
    split <;> rfl
  · rw [if_neg (by omega), if_pos q0]
theorem rway_e (hw : WF_ g) (hD : D_ v g) (hb : 0 ≤ b ∧ b < g 0 0) : fX12_mostWay 814 b v = some (mw_ g b, v) := by
  have hn := hw.1
  obtain ⟨-, he, -⟩ := hw.2 b hb.1 hb.2
  have hve := (EN_va he).1
  unfold fX12_mostWay mw_
  rw [waysOf_e hD (by omega) hve, bd_s, waysOf_e hD (by omega) hve]
  try dsimp only
  by_cases c2 : g 7 b = 2
  · rw [if_pos c2, if_pos rfl, if_pos c2]
  · rw [if_neg c2, if_neg (by omega), bd_s, if_neg c2]
    try dsimp only
    by_cases c1 : g 7 b = 1
    · rw [if_pos (by omega), goneOf_e hD (by omega) (by decide), bd_s, goneOf_e hD (by omega) (by decide), bd_s, if_pos c1]
      try dsimp only
      split <;> rfl
    · rw [if_neg (by omega), if_neg c1]
/-- the way to a block gone most, among the first n -/
def LC_ (g : V_) (to c n : Int) : Prop := (c = -1 ∧ ∀ k, 0 ≤ k → k < n → g 10 k ≠ to) ∨ (0 ≤ c ∧ c < n ∧ g 10 c = to ∧ ∀ k, 0 ≤ k → k < n → g 10 k = to → g 11 (22 + k) ≤ g 11 (22 + c) ∧ (k < c → g 11 (22 + k) < g 11 (22 + c)))
theorem LC_u {c d n : Int} (h : LC_ g to c n) (h2 : LC_ g to d n) : c = d := by
  rcases h with ⟨c1, c2⟩ | ⟨c1, c2, c3, c4⟩ <;> rcases h2 with ⟨d1, d2⟩ | ⟨d1, d2, d3, d4⟩
  · omega
  · exact absurd d3 (c2 d d1 d2)
  · exact absurd c3 (d2 c c1 c2)
  · have a := c4 d d1 d2 d3
    have b := d4 c c1 c2 c3
    omega
def nl_ (g : V_) (to c n : Int) : Int := if g 10 n = to then (if c = -1 then n else if g 11 (22 + n) ≤ g 11 (22 + c) then c else n) else c
theorem LC_step {c n : Int} (h : LC_ g to c n) (h0 : 0 ≤ n) : LC_ g to (nl_ g to c n) (n + 1) := by
  unfold nl_
  by_cases e : g 10 n = to
  · rw [if_pos e]
    rcases h with ⟨c1, c2⟩ | ⟨c1, c2, c3, c4⟩
    · rw [if_pos c1]
      refine Or.inr ⟨h0, by omega, e, fun k k0 k1 k2 => ?_⟩
      by_cases ek : k = n
      · rw [ek]; omega
      · exact absurd k2 (c2 k k0 (by omega))
    · rw [if_neg (by omega)]
      by_cases l : g 11 (22 + n) ≤ g 11 (22 + c)
      · rw [if_pos l]
        refine Or.inr ⟨c1, by omega, c3, fun k k0 k1 k2 => ?_⟩
        by_cases ek : k = n
        · rw [ek]; omega
        · exact c4 k k0 (by omega) k2
      · rw [if_neg l]
        refine Or.inr ⟨h0, by omega, e, fun k k0 k1 k2 => ?_⟩
        by_cases ek : k = n
        · rw [ek]; omega
        · have := c4 k k0 (by omega) k2
          omega
  · rw [if_neg e]
    rcases h with ⟨c1, c2⟩ | ⟨c1, c2, c3, c4⟩
    · refine Or.inl ⟨c1, fun k k0 k1 => ?_⟩
      by_cases ek : k = n
      · rw [ek]; exact e
      · exact c2 k k0 (by omega)
    · refine Or.inr ⟨c1, by omega, c3, fun k k0 k1 k2 => ?_⟩
      by_cases ek : k = n
      · rw [ek] at k2; exact absurd k2 e
      · exact c4 k k0 (by omega) k2
def mg_ (g : V_) (c : Int) : Int := if c = -1 then -1 else g 11 (22 + c)
theorem ccome_e (hw : WF_ g) (hg : RG_ g) (hC : C_ v p g) : ∃ c, fX4_likelyComing to p 140 v = some (c, v) ∧ LC_ g to c (2 * g 0 0) := by
  have hn := hw.1
  have way : ∀ (k : Int → Int → Int → Int → Int → Int → V_ → Option (Int × V_)) (n : Nat) (c f w : Int), 0 ≤ f ∧ f < g 0 0 → 0 ≤ w ∧ w < 2 → LC_ g to c (2 * f + w) → fX4_likelyComing_20 k (n + 1) to p 140 c (mg_ g c) f w v = fX4_likelyComing_20 k n to p 140 (nl_ g to c (2 * f + w)) (mg_ g (nl_ g to c (2 * f + w))) f (w + 1) v := fun k n c f w hf h0 hc => by
    have hgn := hg.2.2.1 (22 + (2 * f + w)) (by omega) (by omega)
    rw [fX4_likelyComing_20, if_neg (by omega), leadsTo_e hw hC hf h0, bd_s]
    try dsimp only
    unfold nl_
    by_cases e : g 10 (2 * f + w) = to
    · rw [if_pos e, if_pos e, cgone_e hC (by omega) h0, bd_s]
      try dsimp only
      by_cases c1 : c = -1
      · rw [if_neg (show ¬ g 11 (22 + (2 * f + w)) ≤ mg_ g c by unfold mg_; rw [if_pos c1]; omega), if_pos c1, lt_d, cgone_e hC (by omega) h0, bd_s, lt_d, wr_id (show -2147483648 ≤ f * 2 ∧ f * 2 < 2147483648 by omega), wr_id (show -2147483648 ≤ f * 2 + w ∧ f * 2 + w < 2147483648 by omega), wr_id (show -2147483648 ≤ w + 1 ∧ w + 1 < 2147483648 by omega), show f * 2 + w = 2 * f + w by omega]
        unfold mg_
        rw [if_neg (show ¬ 2 * f + w = -1 by omega)]
      · rw [if_neg c1]
        by_cases l : g 11 (22 + (2 * f + w)) ≤ g 11 (22 + c)
        · rw [if_pos (show g 11 (22 + (2 * f + w)) ≤ mg_ g c by unfold mg_; rw [if_neg c1]; exact l), if_pos l, lt_d, wr_id (by omega)]
        · rw [if_neg (show ¬ g 11 (22 + (2 * f + w)) ≤ mg_ g c by unfold mg_; rw [if_neg c1]; exact l), if_neg l, lt_d, cgone_e hC (by omega) h0, bd_s, lt_d, wr_id (show -2147483648 ≤ f * 2 ∧ f * 2 < 2147483648 by omega), wr_id (show -2147483648 ≤ f * 2 + w ∧ f * 2 + w < 2147483648 by omega), wr_id (show -2147483648 ≤ w + 1 ∧ w + 1 < 2147483648 by omega), show f * 2 + w = 2 * f + w by omega]
          unfold mg_
          rw [if_neg (show ¬ 2 * f + w = -1 by omega)]
    · rw [if_neg e, if_neg e, lt_d, wr_id (by omega)]
  have go : ∀ (d n : Nat) (f c : Int), 0 ≤ f → g 0 0 = f + d → d < n → LC_ g to c (2 * f) → ∃ c', fX4_likelyComing_8 n to p 140 c (mg_ g c) f v = some (c', v) ∧ LC_ g to c' (2 * g 0 0) := by
    intro d
    induction d with
    | zero =>
      intro n f c f0 hf hn0 hc
      obtain ⟨n, rfl⟩ : ∃ k, n = k + 1 := ⟨n - 1, by omega⟩
      refine ⟨c, ?_, by rw [show g 0 0 = f by omega]; exact hc⟩
      rw [fX4_likelyComing_8, if_pos (by rw [hC.2.1]; omega)]
    | succ d ih =>
      intro n f c f0 hf hn0 hc
      obtain ⟨n, rfl⟩ : ∃ k, n = k + 1 := ⟨n - 1, by omega⟩
      obtain ⟨N, hN⟩ := fu_ge 3 (by decide)
      have h1 := LC_step (n := 2 * f + 0) (by rw [Int.add_zero]; exact hc) (by omega)
      have h2 := LC_step (n := 2 * f + 1) (by rw [show 2 * f + 1 = 2 * f + 0 + 1 by omega]; exact h1) (by omega)
      rw [fX4_likelyComing_8, if_neg (by rw [hC.2.1]; omega), hN, way _ (N + 2) c f 0 ⟨f0, by omega⟩ (by decide) (by rw [Int.add_zero]; exact hc), way _ (N + 1) _ f (0 + 1) ⟨f0, by omega⟩ (by decide) (by rw [show 2 * f + (0 + 1) = 2 * f + 0 + 1 by omega]; exact h1), fX4_likelyComing_20, if_pos (by decide), lt_d, wr_id (by omega)]
      exact ih n (f + 1) _ (by omega) (by omega) (by omega) (by rw [show 2 * (f + 1) = 2 * f + 1 + 1 by omega]; exact h2)
  unfold fX4_likelyComing
  exact go (g 0 0).toNat fu_ 0 (-1) (by decide) (by omega) (by unfold fu_; omega) (Or.inl ⟨rfl, fun k k0 k1 => by omega⟩)
/-- whether a way to a block is gone more often than another -/
theorem oft_e (hw : WF_ g) (hD : D_ v g) {w : Int} (hb : 0 ≤ b ∧ b < g 0 0) (hw2 : 0 ≤ w ∧ w < 2) (ht : g 10 (2 * b + w) = to) (h0 : 0 ≤ to) : ∃ r, fX12_isOftenest 814 b w v = some (r, v) ∧ ((r = 1 ∧ ∀ k, 0 ≤ k → k < 2 * g 0 0 → g 10 k = to → g 11 (22 + k) ≤ g 11 (22 + (2 * b + w))) ∨ (r = 0 ∧ ∃ k, 0 ≤ k ∧ k < 2 * g 0 0 ∧ g 10 k = to ∧ g 11 (22 + (2 * b + w)) < g 11 (22 + k))) := by
  have hn := hw.1
  have hs := hD.1
  have hb0 := hD.2.1
  have way : ∀ (k : Int → Int → Int → Int → Int → V_ → Option (Int × V_)) (n : Nat) (o u : Int), 0 ≤ o ∧ o < g 0 0 → 0 ≤ u ∧ u < 2 → ¬ (if g 7 o = 2 then (0 : Int) else g 7 o + 1) ≤ u → fX12_isOftenest_27 k (n + 1) 814 b w to o u v = if g 10 (2 * o + u) = to then (if g 11 (22 + (2 * o + u)) ≤ g 11 (22 + (2 * b + w)) then fX12_isOftenest_27 k n 814 b w to o (u + 1) v else some (0, v)) else fX12_isOftenest_27 k n 814 b w to o (u + 1) v := fun k n o u ho hu hc => by
    obtain ⟨-, he, -⟩ := hw.2 o ho.1 ho.2
    rw [fX12_isOftenest_27, waysOf_e hD (by omega) (EN_va he).1, bd_s]
    try dsimp only
    rw [if_neg hc, wayTo_e hD (by omega) hu, bd_s]
    try dsimp only
    by_cases e : g 10 (2 * o + u) = to
    · rw [if_pos e, if_pos e, goneOf_e hD (by omega) hu, bd_s, goneOf_e hD (by omega) hw2, bd_s, lt_d, wr_id (by omega)]
    · rw [if_neg e, if_neg e, lt_d, wr_id (by omega)]
  have out : ∀ (k : Int → Int → Int → Int → Int → V_ → Option (Int × V_)) (n : Nat) (o u : Int), 0 ≤ o ∧ o < g 0 0 → (if g 7 o = 2 then (0 : Int) else g 7 o + 1) ≤ u → fX12_isOftenest_27 k (n + 1) 814 b w to o u v = k 814 b w to (o + 1) v := fun k n o u ho hc => by
    obtain ⟨-, he, -⟩ := hw.2 o ho.1 ho.2
    rw [fX12_isOftenest_27, waysOf_e hD (by omega) (EN_va he).1, bd_s]
    try dsimp only
    rw [if_pos hc, lt_d, wr_id (by omega)]
  have go : ∀ (d n : Nat) (o : Int), 0 ≤ o → g 0 0 = o + d → d < n → ∃ r, fX12_isOftenest_10 n 814 b w to o v = some (r, v) ∧ ((r = 1 ∧ ∀ k, 2 * o ≤ k → k < 2 * g 0 0 → g 10 k = to → g 11 (22 + k) ≤ g 11 (22 + (2 * b + w))) ∨ (r = 0 ∧ ∃ k, 0 ≤ k ∧ k < 2 * g 0 0 ∧ g 10 k = to ∧ g 11 (22 + (2 * b + w)) < g 11 (22 + k))) := by
    intro d
    induction d with
    | zero =>
      intro n o o0 ho hn0
      obtain ⟨n, rfl⟩ : ∃ k, n = k + 1 := ⟨n - 1, by omega⟩
      refine ⟨1, ?_, Or.inl ⟨rfl, fun k k0 k1 => by omega⟩⟩
      rw [fX12_isOftenest_10, ck_t (by omega), if_pos (by rw [show (814 + 9 : Int) = 823 from rfl, hb0]; omega)]
    | succ d ih =>
      intro n o o0 ho hn0
      obtain ⟨n, rfl⟩ : ∃ k, n = k + 1 := ⟨n - 1, by omega⟩
      obtain ⟨N, hN⟩ := fu_ge 3 (by decide)
      obtain ⟨-, he, -⟩ := hw.2 o o0 (by omega)
      obtain ⟨r, e1, e2⟩ := ih n (o + 1) (by omega) (by omega) (by omega)
      rw [fX12_isOftenest_10, ck_t (by omega), if_neg (by rw [show (814 + 9 : Int) = 823 from rfl, hb0]; omega), hN]
      have keep : (∀ k, 2 * o ≤ k → k < 2 * o + 2 → g 10 k = to → g 11 (22 + k) ≤ g 11 (22 + (2 * b + w))) → ((r = 1 ∧ ∀ k, 2 * o ≤ k → k < 2 * g 0 0 → g 10 k = to → g 11 (22 + k) ≤ g 11 (22 + (2 * b + w))) ∨ (r = 0 ∧ ∃ k, 0 ≤ k ∧ k < 2 * g 0 0 ∧ g 10 k = to ∧ g 11 (22 + (2 * b + w)) < g 11 (22 + k))) := fun hk => by
        rcases e2 with ⟨e2, e3⟩ | e2
        · refine Or.inl ⟨e2, fun k k0 k1 k2 => ?_⟩
          by_cases c : k < 2 * o + 2
          · exact hk k k0 c k2
          · exact e3 k (by omega) k1 k2
        · exact Or.inr e2
      rcases he with ⟨q0, q1, q2, q3, q4, q5⟩ | ⟨q0, q1, q2, q3, q4, q5, q6⟩ | ⟨q0, q1, q2, q3, q4⟩
      · rw [way _ (N + 2) o 0 ⟨o0, by omega⟩ (by decide) (by rw [if_neg (by omega)]; omega), Int.add_zero, out _ (N + 1) o (0 + 1) ⟨o0, by omega⟩ (by rw [if_neg (by omega)]; omega), e1]
        by_cases e : g 10 (2 * o) = to
        · by_cases l : g 11 (22 + 2 * o) ≤ g 11 (22 + (2 * b + w))
          · rw [if_pos e, if_pos l]
            refine ⟨r, rfl, keep fun k k0 k1 k2 => ?_⟩
            rcases (by omega : k = 2 * o ∨ k = 2 * o + 1) with rfl | rfl
            · exact l
            · omega
          · rw [if_pos e, if_neg l]
            exact ⟨0, rfl, Or.inr ⟨rfl, 2 * o, by omega, by omega, e, by omega⟩⟩
        · rw [if_neg e]
          refine ⟨r, rfl, keep fun k k0 k1 k2 => ?_⟩
          rcases (by omega : k = 2 * o ∨ k = 2 * o + 1) with rfl | rfl
          · exact absurd k2 e
          · omega
      · rw [way _ (N + 2) o 0 ⟨o0, by omega⟩ (by decide) (by rw [if_neg (by omega)]; omega), Int.add_zero, way _ (N + 1) o (0 + 1) ⟨o0, by omega⟩ (by decide) (by rw [if_neg (by omega)]; omega), out _ N o (0 + 1 + 1) ⟨o0, by omega⟩ (by rw [if_neg (by omega)]; omega), e1, Int.zero_add]
        by_cases e : g 10 (2 * o) = to ∧ ¬ g 11 (22 + 2 * o) ≤ g 11 (22 + (2 * b + w))
        · rw [if_pos e.1, if_neg e.2]
          exact ⟨0, rfl, Or.inr ⟨rfl, 2 * o, by omega, by omega, e.1, by omega⟩⟩
        · have e' : (if g 10 (2 * o) = to then (if g 11 (22 + 2 * o) ≤ g 11 (22 + (2 * b + w)) then (if g 10 (2 * o + 1) = to then (if g 11 (22 + (2 * o + 1)) ≤ g 11 (22 + (2 * b + w)) then some (r, v) else some (0, v)) else some (r, v)) else some (0, v)) else (if g 10 (2 * o + 1) = to then (if g 11 (22 + (2 * o + 1)) ≤ g 11 (22 + (2 * b + w)) then some (r, v) else some (0, v)) else some (r, v))) = (if g 10 (2 * o + 1) = to then (if g 11 (22 + (2 * o + 1)) ≤ g 11 (22 + (2 * b + w)) then some (r, v) else some (0, v)) else some (r, v)) := by
            by_cases e1 : g 10 (2 * o) = to
            · rw [if_pos e1, if_pos (Int.not_lt.mp fun q => e ⟨e1, by omega⟩)]
            · rw [if_neg e1]
          rw [e']
          by_cases f : g 10 (2 * o + 1) = to
          · by_cases l : g 11 (22 + (2 * o + 1)) ≤ g 11 (22 + (2 * b + w))
            · rw [if_pos f, if_pos l]
              refine ⟨r, rfl, keep fun k k0 k1 k2 => ?_⟩
              rcases (by omega : k = 2 * o ∨ k = 2 * o + 1) with rfl | rfl
              · exact Int.not_lt.mp fun q => e ⟨k2, by omega⟩
              · exact l
            · rw [if_pos f, if_neg l]
              exact ⟨0, rfl, Or.inr ⟨rfl, 2 * o + 1, by omega, by omega, f, by omega⟩⟩
          · rw [if_neg f]
            refine ⟨r, rfl, keep fun k k0 k1 k2 => ?_⟩
            rcases (by omega : k = 2 * o ∨ k = 2 * o + 1) with rfl | rfl
            · exact Int.not_lt.mp fun q => e ⟨k2, by omega⟩
            · exact absurd k2 f
      · rw [out _ (N + 2) o 0 ⟨o0, by omega⟩ (by rw [if_pos q0]; decide), e1]
        refine ⟨r, rfl, keep fun k k0 k1 k2 => ?_⟩
        rcases (by omega : k = 2 * o ∨ k = 2 * o + 1) with rfl | rfl <;> omega
  unfold fX12_isOftenest
  rw [wayTo_e hD (by omega) hw2, bd_s]
  try dsimp only
  rw [ht]
  obtain ⟨r, e1, e2⟩ := go (g 0 0).toNat fu_ 0 (by decide) (by omega) (by unfold fu_; omega)
  refine ⟨r, e1, ?_⟩
  rcases e2 with ⟨e2, e3⟩ | e2
  · exact Or.inl ⟨e2, fun k k0 k1 k2 => e3 k (by omega) k1 k2⟩
  · exact Or.inr e2
/-- the block to begin with -/
theorem seed_T {vc vr : V_} (hw : WF_ g) (hC : C_ vc p g) (hD : D_ vr g) (hT : ∀ b, 0 ≤ b → b < 8 → vc 191 b = vr 844 b ∧ -1 ≤ vr 844 b) : ∃ r, fX4_mostBegun 189 p 140 vc = some (r, vc) ∧ fX12_seedBlock 814 vr = some (r, vr) ∧ ((r = -1 ∧ ∀ b, 0 ≤ b → b < g 0 0 → vr 844 b ≠ -1) ∨ (0 ≤ r ∧ r < g 0 0 ∧ vr 844 r = -1)) := by
  have hn := hw.1
  have hs := hD.1
  have hb0 := hD.2.1
  have go : ∀ (d n : Nat) (i r : Int), 0 ≤ i → g 0 0 = i + d → d < n → ((r = -1 ∧ ∀ b, 0 ≤ b → b < i → vr 844 b ≠ -1) ∨ (0 ≤ r ∧ r < i ∧ vr 844 r = -1)) → ∃ r', fX4_mostBegun_5 n 189 p 140 r i vc = some (r', vc) ∧ fX12_seedBlock_4 n 814 r i vr = some (r', vr) ∧ ((r' = -1 ∧ ∀ b, 0 ≤ b → b < g 0 0 → vr 844 b ≠ -1) ∨ (0 ≤ r' ∧ r' < g 0 0 ∧ vr 844 r' = -1)) := by
    intro d
    induction d with
    | zero =>
      intro n i r i0 hi hn0 hr
      obtain ⟨n, rfl⟩ : ∃ k, n = k + 1 := ⟨n - 1, by omega⟩
      refine ⟨r, by rw [fX4_mostBegun_5, if_pos (by rw [hC.2.1]; omega)], ?_, by rw [show g 0 0 = i by omega]; exact hr⟩
      rw [fX12_seedBlock_4, ck_t (by omega), if_pos (by rw [show (814 + 9 : Int) = 823 from rfl, hb0]; omega)]
    | succ d ih =>
      intro n i r i0 hi hn0 hr
      obtain ⟨n, rfl⟩ : ∃ k, n = k + 1 := ⟨n - 1, by omega⟩
      obtain ⟨t1, t2⟩ := hT i i0 (by omega)
      rw [fX4_mostBegun_5, if_neg (by rw [hC.2.1]; omega), ck_t (by omega)]
      rw [fX12_seedBlock_4, ck_t (by omega), if_neg (show ¬ vr (814 + 9) (vr 814 18) ≤ i by rw [show (814 + 9 : Int) = 823 from rfl, hb0]; omega), ck_t (by omega)]
      unfold fX4_mostBegun_44 fX12_seedBlock_43
      rw [show (189 + 2 : Int) = 191 from rfl, show (814 + 30 : Int) = 844 from rfl]
      have keep : (r = -1 ∧ ∀ b, 0 ≤ b → b < i → vr 844 b ≠ -1) ∨ (0 ≤ r ∧ r < i ∧ vr 844 r = -1) → (vr 844 i ≠ -1 ∨ r ≠ -1) → (r = -1 ∧ ∀ b, 0 ≤ b → b < i + 1 → vr 844 b ≠ -1) ∨ (0 ≤ r ∧ r < i + 1 ∧ vr 844 r = -1) := fun h h2 => by
        rcases h with ⟨h, h3⟩ | ⟨h, h3, h4⟩
        · refine Or.inl ⟨h, fun b b0 b1 => ?_⟩
          by_cases e : b = i
          · rw [e]; rcases h2 with h2 | h2
            · exact h2
            · exact absurd h h2
          · exact h3 b b0 (by omega)
        · exact Or.inr ⟨h, by omega, h4⟩
      by_cases c : vr 844 i = -1
      · rw [if_pos (t1.trans c), if_neg (show ¬ 0 ≤ vr 844 i by omega)]
        by_cases c2 : r = -1
        · rw [if_pos c2, if_pos (show r < 0 by omega), lt_d, lt_d, wr_id (by omega)]
          exact ih n (i + 1) i (by omega) (by omega) (by omega) (Or.inr ⟨i0, by omega, c⟩)
        · have r0 : 0 ≤ r ∧ r < i := by omega
          rw [if_neg c2, if_neg (show ¬ r < 0 by omega), cbegun_e hC (by omega), bd_s, cbegun_e hC (by omega), bd_s, begunOf_e hD (by omega), bd_s, begunOf_e hD (by omega), bd_s]
          try dsimp only
          by_cases l : g 11 (14 + i) ≤ g 11 (14 + r)
          · rw [if_pos l, if_pos l, lt_d, lt_d, wr_id (by omega)]
            exact ih n (i + 1) r (by omega) (by omega) (by omega) (keep hr (Or.inr c2))
          · rw [if_neg l, if_neg l, lt_d, lt_d, wr_id (by omega)]
            exact ih n (i + 1) i (by omega) (by omega) (by omega) (Or.inr ⟨i0, by omega, c⟩)
      · rw [if_neg (show ¬ vc 191 i = -1 by rw [t1]; exact c), if_pos (show 0 ≤ vr 844 i by omega), lt_d, lt_d, wr_id (by omega)]
        exact ih n (i + 1) r (by omega) (by omega) (by omega) (keep hr (Or.inl c))
  unfold fX4_mostBegun fX12_seedBlock
  exact go (g 0 0).toNat fu_ 0 (-1) (by decide) (by omega) (by unfold fu_; omega) (Or.inl ⟨rfl, fun b b0 b1 => by omega⟩)
end WAYS
