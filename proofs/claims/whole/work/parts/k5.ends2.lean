/-! layer 2: how a block ends, in both: all -/
section PEND2
variable {M p i : Int} {v0 w0 v w v' w' : V_} {s t b c x k : Int}
theorem WY_fr {v' w' : V_} (h : WY_ M b x k v0 w0 v w) (f1 : v' 10 (2 * b + k) = v 10 (2 * b + k)) (f2 : v' 11 (2 * b + k) = v 11 (2 * b + k)) (f3 : w' 836 (2 * x + k) = w 836 (2 * x + k)) : WY_ M b x k v0 w0 v' w' := by
  obtain ⟨T, h1, h2, h3, h4, h5⟩ := h
  exact ⟨T, h1, h2, f1.trans h3, f2.trans h4, f3.trans h5⟩
theorem end_J (e : EV_ M p i v0 w0) (h : J_ M p i v0 w0 v w) (h0 : v 3 6 = 0) (hb : 0 ≤ b ∧ b < 8) (hx : x = 8 * i + b) (hS : SE_ v (p + 56 + b) 2 20 20) (hz : v 10 (2 * b) = 0 ∧ v 10 (2 * b + 1) = 0) : ∃ v' w', fX3_parseEnd 3 b v = some (0, v') ∧ fX12_tellEnd 814 x w = some (0, w') ∧ EO_ M p b x v0 w0 v w v' w' i := by
  have hi := e.2.2.1
  have hp := e.2.1
  have hx2 : 0 ≤ x ∧ x < 16 := by omega
  have HF : ∀ a, 832 ≤ a ∧ a ≤ 834 → hf_ i a x := fun a ha => hf_e hi hb hx ha
  have HW0 : hf_ i 835 (2 * x) := by
    have := hf_w (k := 0) hi hb hx (by decide)
    rw [Int.add_zero] at this
    exact this
  have HW1 := hf_w (k := 1) hi hb hx (by decide)
  have hu : J_ M p i v0 w0 v (up_ (up_ (up_ (up_ w 833 x 20) 834 x 20) 835 (2 * x) (-2)) 835 (2 * x + 1) (-2)) := J_rw e (J_rw e (J_rw e (J_rw e h (Or.inl (HF _ (by decide)))) (Or.inl (HF _ (by decide)))) (Or.inl HW0)) (Or.inl HW1)
  have U2 : PE2_ x w (up_ (up_ (up_ (up_ w 833 x 20) 834 x 20) 835 (2 * x) (-2)) 835 (2 * x + 1) (-2)) := fun a k q q2 q3 => by
    rw [up_n (by omega), up_n (by omega), up_n (by omega), up_n (by omega)]
  have u3 : up_ (up_ (up_ (up_ w 833 x 20) 834 x 20) 835 (2 * x) (-2)) 835 (2 * x + 1) (-2) 833 x = 20 := by rw [up_n (by omega), up_n (by omega), up_n (by omega), up_s ⟨rfl, rfl⟩]
  have u4 : up_ (up_ (up_ (up_ w 833 x 20) 834 x 20) 835 (2 * x) (-2)) 835 (2 * x + 1) (-2) 834 x = 20 := by rw [up_n (by omega), up_n (by omega), up_s ⟨rfl, rfl⟩]
  have u5 : up_ (up_ (up_ (up_ w 833 x 20) 834 x 20) 835 (2 * x) (-2)) 835 (2 * x + 1) (-2) 835 (2 * x) = -2 := by rw [up_n (by omega), up_s ⟨rfl, rfl⟩]
  have u6 : up_ (up_ (up_ (up_ w 833 x 20) 834 x 20) 835 (2 * x) (-2)) 835 (2 * x + 1) (-2) 835 (2 * x + 1) = -2 := up_s ⟨rfl, rfl⟩
  have t30 : TkS_ 10 30 := by unfold TkS_; omega
  have t27 : TkS_ 7 27 := by unfold TkS_; omega
  have t28 : TkS_ 8 28 := by unfold TkS_; omega
  have t4 : TkS_ 59 4 := by unfold TkS_; omega
  have hpp : ∀ v1 w1, J_ M p i v0 w0 v1 w1 → v1 3 4 = p := fun v1 w1 q => (J_tok e q).2.2.2.1
  unfold fX3_parseEnd fX12_tellEnd
  rw [sees_e e h, ck_t hx2, lt_d, ck_t hx2, lt_d, wr_id (x := 2 * x) (by omega), wr_id (x := 2 * x + 1) (by omega), ck_t (by omega), lt_d, ck_t (by omega), lt_d]
  simp only [Int.reduceAdd]
  generalize up_ (up_ (up_ (up_ w 833 x 20) 834 x 20) 835 (2 * x) (-2)) 835 (2 * x + 1) (-2) = u at hu U2 u3 u4 u5 u6 ⊢
  rw [is_s e hu h0 t30]
  by_cases c1 : v0 6 (v 3 5) = 10
  · -- stop
    rw [if_pos c1, if_pos c1, bd_s, bd_s, if_neg n10_, if_neg n10_]
    try dsimp only
    obtain ⟨v1, w1, a1, r1, h1, q1, q2, z1⟩ := take_N e hu h0 (by omega)
    have g1 : J_ M p i v0 w0 v1 (up_ w1 832 x 2) := J_rw e h1 (Or.inl (HF _ (by decide)))
    obtain ⟨v2, w2, a2, r2, h2, q3, q4, z2⟩ := expect_J e g1 t4 (by decide)
    refine ⟨v2, w2, ?_, ?_, h2, PE1_tr (PE1_ec q1) (PE1_ec q3), PE2_tr U2 (PE2_tr (PE2_er q2) (PE2_tr (PE2_up (by decide)) (PE2_er q4))), fun z => ?_⟩
    · rw [a1, bd_s]
      try dsimp only
      rw [a2, bd_s]
    · rw [r1, bd_s, ck_t hx2, lt_d]
      try dsimp only
      rw [r2, bd_s]
    · have e32 : w2 832 x = 2 := by rw [q4 _ _ (by omega), up_s ⟨rfl, rfl⟩]
      have e33 : w2 833 x = 20 := by rw [q4 _ _ (by omega), up_n (by omega), q2 _ _ (by omega), u3]
      have e34 : w2 834 x = 20 := by rw [q4 _ _ (by omega), up_n (by omega), q2 _ _ (by omega), u4]
      have E1 : ∀ a k, a ≠ 3 → v2 a k = v a k := fun a k q => (q3 _ _ (by omega)).trans (q1 _ _ (by omega))
      refine ⟨?_, ?_, ?_, Or.inr (Or.inr ⟨e32, e33, e34, ?_, ?_⟩)⟩
      · rw [e32, e33, e34]
        unfold SE_
        rw [E1 _ _ (by omega), E1 _ _ (by omega), E1 _ _ (by omega), E1 _ _ (by omega)]
        exact hS
      · rw [q4 _ _ (by omega), up_n (by omega), q2 _ _ (by omega), u5]
      · rw [q4 _ _ (by omega), up_n (by omega), q2 _ _ (by omega), u6]
      · rw [E1 _ _ (by omega)]; exact hz.1
      · rw [E1 _ _ (by omega)]; exact hz.2
  · rw [if_neg c1, if_neg c1, bd_s, bd_s, if_pos rfl, if_pos rfl]
    try dsimp only
    rw [sees_e e h, is_s e hu h0 t27]
    by_cases c2 : v0 6 (v 3 5) = 7
    · -- goto
      rw [if_pos c2, if_pos c2, bd_s, bd_s, if_neg n10_, if_neg n10_]
      try dsimp only
      obtain ⟨v1, w1, a1, r1, h1, q1, q2, z1⟩ := take_N e hu h0 (by omega)
      have g1 : J_ M p i v0 w0 (sl_ v1 (p + 56 + b) 7 (-2) 0 0) (up_ w1 832 x 0) := J_sl e (J_rw e h1 (Or.inl (HF _ (by decide)))) hb
      obtain ⟨v2, w2, a2, r2, h2, q3, q4, z2, f1, f2, f3, f4⟩ := tellWay_J (k := 0) e g1 hb (by decide) hx
      rw [Int.add_zero] at r2
      obtain ⟨v3, w3, a3, r3, h3, q5, q6, z3⟩ := expect_J e h2 t4 (by decide)
      refine ⟨v3, w3, ?_, ?_, h3, PE1_tr (PE1_ec q1) (PE1_tr PE1_sl (PE1_tr q3 (PE1_ec q5))), PE2_tr U2 (PE2_tr (PE2_er q2) (PE2_tr (PE2_up (by decide)) (PE2_tr q4 (PE2_er q6)))), fun z => ?_⟩
      · rw [a1, bd_s]
        try dsimp only
        rw [ck_t (by rw [hpp _ _ h1]; exact hp), ck_t (by omega), hpp _ _ h1, show p + 3 + (53 + 1 * b) = p + 56 + b by omega, tel_e, bd_s]
        try dsimp only
        rw [a2, bd_s]
        try dsimp only
        rw [a3, bd_s]
      · rw [r1, bd_s, ck_t hx2, lt_d]
        try dsimp only
        rw [r2, bd_s]
        try dsimp only
        rw [r3, bd_s]
      · have S := sl_i (v := v1) (y := p + 56 + b) (o := 7) (r := -2) (a := 0) (b := 0)
        have e32 : w3 832 x = 0 := by rw [q6 _ _ (by omega), f3 _ (by decide) (by decide), up_s ⟨rfl, rfl⟩]
        have e33 : w3 833 x = 20 := by rw [q6 _ _ (by omega), f3 _ (by decide) (by decide), up_n (by omega), q2 _ _ (by omega), u3]
        have e34 : w3 834 x = 20 := by rw [q6 _ _ (by omega), f3 _ (by decide) (by decide), up_n (by omega), q2 _ _ (by omega), u4]
        have W := (z2 (z3 z).1).2
        refine ⟨?_, ?_, ?_, Or.inl ⟨e32, e33, e34, WY_fr W (q5 _ _ (by omega)) (q5 _ _ (by omega)) (q6 _ _ (by omega)), ?_⟩⟩
        · rw [e32, e33, e34]
          unfold SE_
          rw [q5 _ _ (by omega), q5 _ _ (by omega), q5 _ _ (by omega), q5 _ _ (by omega), f4, f4, f4, f4, S.1, S.2.1, S.2.2.1, S.2.2.2]
          exact ⟨rfl, rfl, rfl, rfl⟩
        · rw [q6 _ _ (by omega), f2 _ _ (Or.inl rfl), up_n (by omega), q2 _ _ (by omega), u5]
        · rw [q6 _ _ (by omega), f2 _ _ (Or.inl rfl), up_n (by omega), q2 _ _ (by omega), u6]
        · rw [q5 _ _ (by omega), f1 _ _ (by decide) (by decide) (by omega), sl_o (by omega), q1 _ _ (by omega)]; exact hz.2
    · rw [if_neg c2, if_neg c2, bd_s, bd_s, if_pos rfl, if_pos rfl]
      try dsimp only
      rw [sees_e e h]
      by_cases c3 : v0 6 (v 3 5) = 8
      · -- if
        rw [if_pos c3, bd_s, if_neg n10_]
        try dsimp only
        unfold fX12_must
        rw [is_s e hu h0 t28, if_pos c3, bd_s, if_neg n10_]
        try dsimp only
        obtain ⟨v1, w1, a1, r1, h1, q1, q2, z1⟩ := take_N e hu h0 (by omega)
        have g1 : J_ M p i v0 w0 v1 (up_ w1 832 x 1) := J_rw e h1 (Or.inl (HF _ (by decide)))
        obtain ⟨r, r', v2, w2, a2, r2, hr, h2, q3, q4, z2⟩ := takeReg_J e g1
        have g2 : J_ M p i v0 w0 v2 (up_ w2 833 x r') := J_rw e h2 (Or.inl (HF _ (by decide)))
        obtain ⟨v3, w3, a3, r3, h3, q5, q6, z3⟩ := expect_J e g2 (s := 60) (t := 13) (by unfold TkS_; omega) (by decide)
        obtain ⟨d, d', v4, w4, a4, r4, h4, q7, q8, z4⟩ := takeVal_J e h3
        have g4 : J_ M p i v0 w0 (sl_ v4 (p + 56 + b) 8 (-2) (bX_ r (-1)) d) (up_ w4 834 x d') := J_sl e (J_rw e h4 (Or.inl (HF _ (by decide)))) hb
        obtain ⟨v5, w5, a5, r5, h5, q9, q10, z5⟩ := expect_J e g4 t27 (by decide)
        obtain ⟨v6, w6, a6, r6, h6, q11, q12, z6, f1, f2, f3, f4⟩ := tellWay_J (k := 0) e h5 hb (by decide) hx
        rw [Int.add_zero] at r6
        obtain ⟨v7, w7, a7, r7, h7, q13, q14, z7⟩ := expect_J e h6 (s := 9) (t := 29) (by unfold TkS_; omega) (by decide)
        obtain ⟨v8, w8, a8, r8, h8, q15, q16, z8, y1, y2, y3, y4⟩ := tellWay_J (k := 1) e h7 hb (by decide) hx
        obtain ⟨v9, w9, a9, r9, h9, q17, q18, z9⟩ := expect_J e h8 t4 (by decide)
        unfold fX12_must at r3 r5 r7 r9
        refine ⟨v9, w9, ?_, ?_, h9, PE1_tr (PE1_ec q1) (PE1_tr (PE1_ec q3) (PE1_tr (PE1_ec q5) (PE1_tr (PE1_ec q7) (PE1_tr PE1_sl (PE1_tr (PE1_ec q9) (PE1_tr q11 (PE1_tr (PE1_ec q13) (PE1_tr q15 (PE1_ec q17))))))))), PE2_tr U2 (PE2_tr (PE2_er q2) (PE2_tr (PE2_up (by decide)) (PE2_tr (PE2_er q4) (PE2_tr (PE2_up (by decide)) (PE2_tr (PE2_er q6) (PE2_tr (PE2_er q8) (PE2_tr (PE2_up (by decide)) (PE2_tr (PE2_er q10) (PE2_tr q12 (PE2_tr (PE2_er q14) (PE2_tr q16 (PE2_er q18)))))))))))), fun z => ?_⟩
        · rw [a1, bd_s]
          try dsimp only
          rw [a2, bd_s]
          try dsimp only
          rw [a3, bd_s]
          try dsimp only
          rw [ck_t (by rw [hpp _ _ h3]; exact hp), ck_t (by omega), a4, bd_s, hpp _ _ h3, show p + 3 + (53 + 1 * b) = p + 56 + b by omega]
          try dsimp only
          rw [tel_e, bd_s]
          try dsimp only
          rw [a5, bd_s]
          try dsimp only
          rw [a6, bd_s]
          try dsimp only
          rw [a7, bd_s]
          try dsimp only
          rw [a8, bd_s]
          try dsimp only
          rw [a9, bd_s]
        · rw [r1, bd_s, bd_s, ck_t hx2, lt_d]
          try dsimp only
          rw [r2, bd_s, ck_t hx2, lt_d]
          try dsimp only
          rw [r3, bd_s]
          try dsimp only
          rw [r4, bd_s, ck_t hx2, lt_d]
          try dsimp only
          rw [r5, bd_s]
          try dsimp only
          rw [r6, bd_s]
          try dsimp only
          rw [r7, bd_s]
          try dsimp only
          rw [r8, bd_s]
          try dsimp only
          rw [r9, bd_s]
        · obtain ⟨x8, -, -⟩ := z9 z
          obtain ⟨x7, W1⟩ := z8 x8
          obtain ⟨x6, -, -⟩ := z7 x7
          obtain ⟨x5, W0⟩ := z6 x6
          obtain ⟨x4', -, -⟩ := z5 x5
          have x4 : v4 3 6 = 0 := by rw [sl_o (by omega)] at x4'; exact x4'
          obtain ⟨x3, d1, d2, -⟩ := z4 x4
          obtain ⟨x2, -, -⟩ := z3 x3
          obtain ⟨-, r1', -, -⟩ := z2 x2
          have S := sl_i (v := v4) (y := p + 56 + b) (o := 8) (r := -2) (a := bX_ r (-1)) (b := d)
          have G : ∀ a, 832 ≤ a → a ≤ 834 → w9 a x = w5 a x := fun a g g2 => by rw [q18 _ _ (by omega), y3 _ g g2, q14 _ _ (by omega), f3 _ g g2]
          have e32 : w9 832 x = 1 := by rw [G _ (by decide) (by decide), q10 _ _ (by omega), up_n (by omega), q8 _ _ (by omega), q6 _ _ (by omega), up_n (by omega), q4 _ _ (by omega), up_s ⟨rfl, rfl⟩]
          have e33 : w9 833 x = r := by rw [G _ (by decide) (by decide), q10 _ _ (by omega), up_n (by omega), q8 _ _ (by omega), q6 _ _ (by omega), up_s ⟨rfl, rfl⟩, r1']
          have e34 : w9 834 x = d' := by rw [G _ (by decide) (by decide), q10 _ _ (by omega), up_s ⟨rfl, rfl⟩]
          have V : ∀ k, v9 (p + 56 + b) k = sl_ v4 (p + 56 + b) 8 (-2) (bX_ r (-1)) d (p + 56 + b) k := fun k => by rw [q17 _ _ (by omega), y4, q13 _ _ (by omega), f4, q9 _ _ (by omega)]
          refine ⟨?_, ?_, ?_, Or.inr (Or.inl ⟨e32, by rw [e33]; exact Or.inl hr, by rw [e34]; exact d2, ?_, WY_fr W1 (q17 _ _ (by omega)) (q17 _ _ (by omega)) (q18 _ _ (by omega))⟩)⟩
          · rw [e32, e33, e34]
            unfold SE_
            rw [V, V, V, V, S.1, S.2.1, S.2.2.1, S.2.2.2, bX_m (by unfold iR_; omega)]
            refine ⟨rfl, rfl, ?_, d1⟩
            unfold vl_
            rw [if_pos (by omega)]
          · rw [q18 _ _ (by omega), y2 _ _ (Or.inl rfl), q14 _ _ (by omega), f2 _ _ (Or.inl rfl), q10 _ _ (by omega), up_n (by omega), q8 _ _ (by omega), q6 _ _ (by omega), up_n (by omega), q4 _ _ (by omega), up_n (by omega), q2 _ _ (by omega), u5]
          · rw [q18 _ _ (by omega), y2 _ _ (Or.inl rfl), q14 _ _ (by omega), f2 _ _ (Or.inl rfl), q10 _ _ (by omega), up_n (by omega), q8 _ _ (by omega), q6 _ _ (by omega), up_n (by omega), q4 _ _ (by omega), up_n (by omega), q2 _ _ (by omega), u6]
          · refine WY_fr W0 ?_ ?_ ?_
            · rw [q17 _ _ (by omega), y1 _ _ (by decide) (by decide) (by omega), q13 _ _ (by omega)]
            · rw [q17 _ _ (by omega), y1 _ _ (by decide) (by decide) (by omega), q13 _ _ (by omega)]
            · rw [q18 _ _ (by omega), y2 _ _ (Or.inr ⟨rfl, by omega⟩), q14 _ _ (by omega)]
      · rw [if_neg c3, bd_s, if_pos rfl]
        try dsimp only
        obtain ⟨v1, w1, a1, r1, h1, q1, q2, z1⟩ := fail_J e hu (c := 1) (by decide)
        have M1 : fX12_must 814 28 u = some (0, w1) := by
          unfold fX12_must
          rw [is_s e hu h0 t28, if_neg c3, bd_s, if_pos rfl]
          try dsimp only
          rw [r1, bd_s]
        obtain ⟨w2, r2, h2, q4⟩ := if_F e h1 z1 hb hx
        rw [wr_id (x := 2 * x) (by omega), wr_id (x := 2 * x + 1) (by omega)] at r2
        refine ⟨v1, w2, ?_, ?_, h2, PE1_ec q1, PE2_tr U2 (PE2_tr (PE2_er q2) q4), fun z => absurd z z1⟩
        · rw [a1, bd_s]
          try dsimp only
          rw [expect_F e h1 z1, bd_s]
        · rw [M1, bd_s]
          exact r2
end PEND2
