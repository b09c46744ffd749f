/-! layer 2: units told, in both -/
section UNI
variable {M p i : Int} {v0 w0 v w v' w' : V_} {s t b c x k T lo : Int}
theorem EV_rb (e : EV_ M p i v0 w0) : EV_ M p i (up_ v0 3 5 lo) w0 := by
  obtain ⟨⟨m1, m2, m3, m4, m5, m6⟩, ep, ei, e1, e2⟩ := e
  refine ⟨⟨m1, ?_, fun k k0 k1 => TE_n (m3 k k0 k1) (fun h h0 h1 => up_n (by omega)) (fun _ _ _ => rfl), fun k k0 k1 => ?_, m5, ?_⟩, ep, ei, ?_, e2⟩
  · rw [up_n (by omega)]; exact m2
  · rw [up_n (by omega)]; exact m4 k k0 k1
  · rw [up_n (by omega)]; exact m6
  · rw [up_n (by omega)]; exact e1
theorem J_rb (h : J_ M p i v0 w0 v w) (hl : lo ≤ v 3 5) : J_ M p i (up_ v0 3 5 lo) w0 v w := by
  obtain ⟨f1, f2, g, h4, h5, h6, h7, h8, h9, h10⟩ := h
  refine ⟨fun a k q q2 q3 => (f1 a k q q2 q3).trans (up_n (by omega)).symm, f2, g, h4, h5, h6, h7, h8, fun z => ?_, by rw [up_s ⟨rfl, rfl⟩]; exact hl⟩
  rcases h9 z with q | ⟨q1, q2, q3, T, t0, t1, t2, t3, t4⟩
  · exact Or.inl q
  · exact Or.inr ⟨q1, q2, q3, T, t0, t1, t2, t3, fun y => (up_n (by omega)).trans (t4 y)⟩
theorem J_br (h : J_ M p i (up_ v0 3 5 lo) w0 v w) (hl : v0 3 5 ≤ lo) : J_ M p i v0 w0 v w ∧ lo ≤ v 3 5 := by
  obtain ⟨f1, f2, g, h4, h5, h6, h7, h8, h9, h10⟩ := h
  rw [up_s ⟨rfl, rfl⟩] at h10
  refine ⟨⟨fun a k q q2 q3 => (f1 a k q q2 q3).trans (up_n (by omega)), f2, g, h4, h5, h6, h7, h8, fun z => ?_, by omega⟩, h10⟩
  rcases h9 z with q | ⟨q1, q2, q3, T, t0, t1, t2, t3, t4⟩
  · exact Or.inl q
  · exact Or.inr ⟨q1, q2, q3, T, t0, t1, t2, t3, fun y => (up_n (by omega)).symm.trans (t4 y)⟩
def UO_ (M p i : Int) (v0 w0 v w v' w' : V_) : Prop := J_ M p i v0 w0 v' w' ∧ ∃ t, (0 ≤ t ∧ t < 4) ∧ (∀ a k, ¬ (a = 3 ∧ 5 ≤ k ∧ k ≤ 9) → ¬ ((a = p + 6 ∨ a = p + 7) ∧ k = t) → v' a k = v a k) ∧ (∀ a k, ¬ (a = 814 ∧ (k = 11 ∨ (13 ≤ k ∧ k ≤ 16))) → ¬ ((a = 824 ∨ a = 825) ∧ k = 4 * i + t) → w' a k = w a k) ∧ (v' 3 6 = 0 → v 3 5 < v' 3 5 ∧ v' (p + 6) t = w' 824 (4 * i + t) ∧ v' (p + 7) t = w' 825 (4 * i + t) ∧ (v' 3 8 = 0 → v 3 8 = 0 ∧ (1 ≤ w' 824 (4 * i + t) ∧ w' 824 (4 * i + t) ≤ 4) ∧ 1 ≤ w' 825 (4 * i + t) ∧ w' 825 (4 * i + t) ≤ 6))
theorem takeUpTo_F (e : EV_ M p i v0 w0) (h : J_ M p i v0 w0 v w) (hF : v 3 6 ≠ 0) {m : Int} : ∃ r, fX3_takeUpTo 3 m v = some (r, v) := by
  unfold fX3_takeUpTo
  rw [show (3 : Int) + 1 = 4 from rfl, placeAt_e e h, bd_s]
  try dsimp only
  rw [valueAt_e e h, bd_s, lt_d]
  try dsimp only
  rw [expect_F e h hF, bd_s, if_neg hF]
  exact ⟨_, rfl⟩
theorem J_up2 (e : EV_ M p i v0 w0) (h : J_ M p i v0 w0 v w) (ht : 0 ≤ t ∧ t < 4) {y : Int} {a : Int} (ha : a = p + 6 ∨ a = p + 7) : J_ M p i v0 w0 (up_ v a t y) w := by
  have hp := e.2.1
  exact J_cw e h fun a' k _ q => up_n (by omega)
/-- both numbers and the end of it, in any state -/
def UG_ (M p i T : Int) (v0 w0 v w v' w' : V_) : Prop := J_ M p i v0 w0 v' w' ∧ (∀ a k, ¬ (a = 3 ∧ 5 ≤ k ∧ k ≤ 9) → ¬ ((a = p + 6 ∨ a = p + 7) ∧ k = T) → v' a k = v a k) ∧ (∀ a k, ¬ (a = 814 ∧ (k = 11 ∨ (13 ≤ k ∧ k ≤ 16))) → ¬ ((a = 824 ∨ a = 825) ∧ k = 4 * i + T) → w' a k = w a k) ∧ (v' 3 6 = 0 → v' (p + 6) T = w' 824 (4 * i + T) ∧ v' (p + 7) T = w' 825 (4 * i + T) ∧ (v' 3 8 = 0 → v 3 8 = 0 ∧ (1 ≤ w' 824 (4 * i + T) ∧ w' 824 (4 * i + T) ≤ 4) ∧ 1 ≤ w' 825 (4 * i + T) ∧ w' 825 (4 * i + T) ≤ 6))
theorem units_G (e : EV_ M p i v0 w0) (h2 : J_ M p i v0 w0 v w) (hT0 : 0 ≤ T ∧ T < 4) : ∃ v' w', (bd_ (fX3_takeUpTo 3 4 v) fun q9 =>
      bd_ (fX3_takeUpTo 3 6 q9.2) fun q10 =>
      bd_ (fX3_expect 3 59 q10.2) fun q11 =>
      if (q11.2 3 6) = 0 then (
        ck_ (q11.2 3 4 = PA_ ∨ q11.2 3 4 = PB_) (
        ck_ (0 ≤ T ∧ T < 4) (
        lt_ (up_ q11.2 ((q11.2 3 4) + 6) T q9.1) fun v17 =>
        ck_ (v17 3 4 = PA_ ∨ v17 3 4 = PB_) (
        ck_ (0 ≤ T ∧ T < 4) (
        lt_ (up_ v17 ((v17 3 4) + 7) T q10.1) fun v22 =>
        some ((0 : Int), v22))))))
      else (
        some (0, q11.2))) = some (0, v') ∧ (bd_ (fX12_bounded 814 1 4 w) fun q9 => ck_ (0 ≤ wr_ (wr_ (4 * w 814 19) + T) ∧ wr_ (wr_ (4 * w 814 19) + T) < 8) (lt_ (up_ q9.2 (814 + 10) (wr_ (wr_ (4 * w 814 19) + T)) q9.1) fun v11 => bd_ (fX12_bounded 814 1 6 v11) fun q13 => ck_ (0 ≤ wr_ (wr_ (4 * v11 814 19) + T) ∧ wr_ (wr_ (4 * v11 814 19) + T) < 8) (lt_ (up_ q13.2 (814 + 11) (wr_ (wr_ (4 * v11 814 19) + T)) q13.1) fun v15 => bd_ (fX12_must 814 4 v15) fun q16 => some ((0 : Int), q16.2)))) = some (0, w') ∧ UG_ M p i T v0 w0 v w v' w' := by
  have hi := e.2.2.1
  have hp := e.2.1
  obtain ⟨r, r', v3, w3, a3, r3, h3, q5, q6, z3⟩ := takeUpTo_J e h2 (m := 4) (by decide)
  have hi2 : w 814 19 = i := (J_tok e h2).2.2.2.2
  have g3 : J_ M p i v0 w0 v3 (up_ w3 824 (4 * i + T) r') := J_rw e h3 (Or.inl (Or.inr (Or.inl ⟨Or.inl rfl, by omega, by omega⟩)))
  obtain ⟨s, s', v4, w4, a4, r4, h4, q7, q8, z4⟩ := takeUpTo_J e g3 (m := 6) (by decide)
  have hi3 : up_ w3 824 (4 * i + T) r' 814 19 = i := (J_tok e g3).2.2.2.2
  have g4 : J_ M p i v0 w0 v4 (up_ w4 825 (4 * i + T) s') := J_rw e h4 (Or.inl (Or.inr (Or.inl ⟨Or.inr rfl, by omega, by omega⟩)))
  obtain ⟨v5, w5, a5, r5, h5, q9, q10, z5⟩ := expect_J e g4 (s := 59) (t := 4) (by unfold TkS_; omega) (by decide)
  have p5 := (J_tok e h5).2.2.2.1
  have W : wr_ (wr_ (4 * i) + T) = 4 * i + T := by rw [wr_id (x := 4 * i) (by omega), wr_id (by omega)]
  have RR : (bd_ (fX12_bounded 814 1 4 w) fun q9 => ck_ (0 ≤ wr_ (wr_ (4 * w 814 19) + T) ∧ wr_ (wr_ (4 * w 814 19) + T) < 8) (lt_ (up_ q9.2 (814 + 10) (wr_ (wr_ (4 * w 814 19) + T)) q9.1) fun v11 => bd_ (fX12_bounded 814 1 6 v11) fun q13 => ck_ (0 ≤ wr_ (wr_ (4 * v11 814 19) + T) ∧ wr_ (wr_ (4 * v11 814 19) + T) < 8) (lt_ (up_ q13.2 (814 + 11) (wr_ (wr_ (4 * v11 814 19) + T)) q13.1) fun v15 => bd_ (fX12_must 814 4 v15) fun q16 => some ((0 : Int), q16.2)))) = some (0, w5) := by
    rw [r3, bd_s, ck_t (by rw [hi2, W]; omega), hi2, W, lt_d]
    try dsimp only
    rw [show (814 : Int) + 10 = 824 from rfl, r4, bd_s, ck_t (by rw [hi3, W]; omega), hi3, W, lt_d]
    try dsimp only
    rw [show (814 : Int) + 11 = 825 from rfl, r5, bd_s]
  rw [RR, a3, bd_s]
  try dsimp only
  rw [a4, bd_s]
  try dsimp only
  rw [a5, bd_s]
  try dsimp only
  have C1 : Eq1_ v v5 := Eq1_tr q5 (Eq1_tr q7 (Eq1_e q9))
  have e24 : w5 824 (4 * i + T) = r' := by rw [q10 _ _ (by simp), up_n (by simp), q8 _ _ (by simp), up_s ⟨rfl, rfl⟩]
  have e25 : w5 825 (4 * i + T) = s' := by rw [q10 _ _ (by simp), up_s ⟨rfl, rfl⟩]
  have C2 : ∀ a k, ¬ (a = 814 ∧ (k = 11 ∨ (13 ≤ k ∧ k ≤ 16))) → ¬ ((a = 824 ∨ a = 825) ∧ k = 4 * i + T) → w5 a k = w a k := fun a k g g2 => by
    clear z3 z4 z5 hp hi
    rw [q10 _ _ (by omega), up_n (by omega), q8 _ _ g, up_n (by omega), q6 _ _ g]
  by_cases y : v5 3 6 = 0
  · rw [if_pos y, ck_t (by rw [p5]; exact hp), ck_t hT0, lt_d]
    have G1 := J_up2 (t := T) (y := r) e h5 hT0 (a := p + 6) (Or.inl rfl)
    have p6 := (J_tok e G1).2.2.2.1
    rw [p5, ck_t (by rw [p6]; exact hp), ck_t hT0, lt_d, p6]
    have G2 := J_up2 (t := T) (y := s) e G1 hT0 (a := p + 7) (Or.inr rfl)
    obtain ⟨y4, -, -⟩ := z5 y
    obtain ⟨y3, s1, s2⟩ := z4 y4
    obtain ⟨-, s3, s4⟩ := z3 y3
    clear z3 z4 z5
    have y38 : v4 3 8 = v5 3 8 := (q9 _ _ (by omega)).symm
    have y39 : ∀ x z, up_ (up_ v5 (p + 6) T x) (p + 7) T z 3 8 = v5 3 8 := fun x z => by rw [up_n (by omega), up_n (by omega)]
    refine ⟨_, w5, rfl, rfl, G2, fun a k g g2 => ?_, C2, fun _ => ⟨?_, ?_, fun y8 => ?_⟩⟩
    · clear s2 s4
      rw [up_n (by omega), up_n (by omega)]
      exact C1 a k g
    · rw [up_n (by omega), up_s ⟨rfl, rfl⟩, e24, s3]
    · rw [up_s ⟨rfl, rfl⟩, e25, s1]
    · rw [y39, ← y38] at y8
      obtain ⟨x1, x2⟩ := s2 y8
      obtain ⟨x3, x4⟩ := s4 x1
      rw [e24, e25, ← s1, ← s3]
      exact ⟨x3, x4, x2⟩
  · rw [if_neg y]
    exact ⟨v5, w5, rfl, rfl, h5, fun a k g _ => C1 a k g, C2, fun q => absurd q y⟩
theorem units_J (e : EV_ M p i v0 w0) (h : J_ M p i v0 w0 v w) (h0 : v 3 6 = 0) (hs : v0 6 (v 3 5) = 0) : ∃ v' w', fX3_parseUnits 3 v = some (0, v') ∧ (bd_ (fX12_goesOn 814 w) fun q12 =>
    bd_ (fX12_tellUnits 814 q12.2) fun q13 =>
    some ((0 : Int), q13.2)) = some (0, w') ∧ UO_ M p i v0 w0 v w v' w' := by
  have hp := e.2.1
  have m1 := e.1.1
  obtain ⟨v1, w1, a1, r1, h1, q1, q2, z1⟩ := take_N e h h0 (by omega)
  have b1 := TS_b (J_ts e h1)
  have h14 := h1.2.2.2.1
  have h15 := h1.2.2.2.2.1
  obtain ⟨-, -, t3, p1, i1⟩ := J_tok e h1
  have ts := J_ts e h1
  unfold fX3_parseUnits
  rw [a1, bd_s, r1, bd_s]
  try dsimp only
  unfold fX12_tellUnits
  rw [show (3 : Int) + 1 = 4 from rfl, sortAt_e e h1, bd_s, ck_t (by omega), h15, show (814 : Int) + 3 = 817 from rfl, t3 817 _ (by decide) (by decide)]
  try dsimp only
  rw [wr_id (x := v0 6 (v1 3 5) - 2) (by omega), lt_d, wr_id (x := w0 817 (v1 3 5) - 22) (by omega), lt_d]
  -- what fails
  have BAD : ∀ v2 w2, J_ M p i v0 w0 v2 w2 → Eq1_ v v2 → Eq2_ w w2 → v2 3 6 ≠ 0 → UO_ M p i v0 w0 v w v2 w2 := fun v2 w2 g1 g2 g3 g4 => ⟨g1, 0, by decide, fun a k q _ => g2 a k q, fun a k q _ => g3 a k q, fun q => absurd q g4⟩
  by_cases c : 2 ≤ v0 6 (v1 3 5) ∧ v0 6 (v1 3 5) ≤ 5
  · have hw : w0 817 (v1 3 5) = v0 6 (v1 3 5) + 20 := by
      unfold TkS_ at ts
      omega
    rw [if_neg (show ¬ v0 6 (v1 3 5) - 2 < 0 by omega), if_pos (show v0 6 (v1 3 5) - 2 < 4 by omega), hw, if_neg (show ¬ v0 6 (v1 3 5) + 20 - 22 < 0 by omega), ck_t (by omega), if_pos (show v0 6 (v1 3 5) + 20 ≤ 25 by omega), show v0 6 (v1 3 5) + 20 - 22 = v0 6 (v1 3 5) - 2 by omega]
    have hT0 : 0 ≤ v0 6 (v1 3 5) - 2 ∧ v0 6 (v1 3 5) - 2 < 4 := by omega
    by_cases z : v1 3 6 = 0
    · have z1' := z1 z
      have k1 := JF_ h1
      obtain ⟨v2, w2, a2, r2, h2, q3, q4, z2⟩ := take_N e h1 z (by omega)
      generalize v0 6 (v1 3 5) - 2 = T at hT0
      unfold fX12_tellUnits_36
      have lo : v0 3 5 ≤ v1 3 5 := h1.2.2.2.2.2.2.2.2.2
      have lo2 : v1 3 5 ≤ v2 3 5 := by
        by_cases y : v2 3 6 = 0
        · have := z2 y
          omega
        · unfold fX3_take at a2
          by_cases y2 : v1 3 5 < 400
          · rw [if_pos y2, if_pos z, lt_d] at a2
            rw [← (Prod.mk.inj (Option.some.inj a2)).2, up_n (by omega)] at y
            exact absurd z y
          · rw [if_neg y2, fX3_fail, if_pos z, lt_d, bd_s] at a2
            rw [← (Prod.mk.inj (Option.some.inj a2)).2]
            show v1 3 5 ≤ up_ v1 3 6 2 3 5
            rw [up_n (by omega)]
            exact Int.le_refl _
      have e' : EV_ M p i (up_ v0 3 5 (v1 3 5)) w0 := EV_rb e
      have h2' := J_rb (lo := v1 3 5) h2 lo2
      obtain ⟨v5, w5, x1, x2, x3, x4, x5, x6⟩ := units_G e' h2' hT0
      obtain ⟨G3, G4⟩ := J_br x3 lo
      rw [if_pos (show w1 814 13 ≤ 0 by omega), r2, bd_s, a2, bd_s]
      try dsimp only
      rw [x1, x2, bd_s]
      clear z1 z2
      have e8 : v2 3 8 = v 3 8 := (q3 _ _ (by omega)).trans (q1 _ _ (by omega))
      refine ⟨v5, w5, rfl, rfl, G3, T, hT0, fun a k g g2 => (x4 a k g g2).trans ((q3 a k (by clear x6; omega)).trans (q1 a k (by clear x6; omega))), fun a k g g2 => (x5 a k g g2).trans ((q4 a k (by clear x6; omega)).trans (q2 a k (by clear x6; omega))), fun y => ?_⟩
      obtain ⟨y1, y2, y3⟩ := x6 y
      exact ⟨by omega, y1, y2, fun y8 => ⟨e8.symm.trans (y3 y8).1, (y3 y8).2⟩⟩
    · have k1 := JF_ h1
      obtain ⟨r, a3⟩ := takeUpTo_F e h1 z (m := 4)
      obtain ⟨s, a4⟩ := takeUpTo_F e h1 z (m := 6)
      unfold fX12_tellUnits_36
      rw [if_neg (show ¬ w1 814 13 ≤ 0 by omega), bd_s, take_F z, bd_s]
      try dsimp only
      rw [a3, bd_s]
      try dsimp only
      rw [a4, bd_s]
      try dsimp only
      rw [expect_F e h1 z, bd_s]
      try dsimp only
      rw [if_neg z]
      exact ⟨v1, w1, rfl, rfl, BAD _ _ h1 (Eq1_e q1) (Eq2_e q2) z⟩
  · obtain ⟨v2, w2, a2, r2, h2, q3, q4, z2⟩ := fail_J e h1 (c := 1) (by decide)
    have k2 := JF_ h2
    have RR : fX12_tellUnits_31 814 (w0 817 (v1 3 5) - 22) w1 = some (0, w2) := by
      rw [fX12_tellUnits_31, r2, bd_s, fX12_tellUnits_36, if_neg (show ¬ w2 814 13 ≤ 0 by omega)]
    have hw : ¬ (22 ≤ w0 817 (v1 3 5) ∧ w0 817 (v1 3 5) ≤ 25) := by
      unfold TkS_ at ts
      omega
    have R2 : (if w0 817 (v1 3 5) - 22 < 0 then fX12_tellUnits_31 814 (w0 817 (v1 3 5) - 22) w1 else ck_ (0 ≤ v1 3 5 ∧ v1 3 5 < 403) (if w0 817 (v1 3 5) ≤ 25 then fX12_tellUnits_36 814 (w0 817 (v1 3 5) - 22) w1 else fX12_tellUnits_31 814 (w0 817 (v1 3 5) - 22) w1)) = some (0, w2) := by
      by_cases g : w0 817 (v1 3 5) - 22 < 0
      · rw [if_pos g, RR]
      · rw [if_neg g, ck_t (by omega), if_neg (by omega), RR]
    rw [R2, bd_s, a2, bd_s]
    refine ⟨v2, w2, ?_, rfl, BAD _ _ h2 (Eq1_tr (Eq1_e q1) (Eq1_e q3)) (Eq2_tr (Eq2_e q2) (Eq2_e q4)) z2⟩
    by_cases g : v0 6 (v1 3 5) - 2 < 0
    · rw [if_pos g]
    · rw [if_neg g, if_neg (by omega)]
end UNI
