/-! layer 2: a line told: which -/
section PLINE3
variable {M p i : Int} {v0 w0 v w v' w' : V_} {s t b c x j r : Int}
theorem line_T (e : EV_ M p i v0 w0) (h : J_ M p i v0 w0 v w) (h0 : v 3 6 = 0) (hs : (11 ≤ v0 6 (v 3 5) ∧ v0 6 (v 3 5) ≤ 16) ∨ v0 6 (v 3 5) = 6) (hb : 0 ≤ b ∧ b < 8) (hj : v (p + 1) b = j ∧ 0 ≤ j ∧ j < 6) (hx : x = 6 * (8 * i + b) + j) : ∃ v' w', fX3_parseLine 3 b v = some (0, v') ∧ fX12_tellLine 814 x w = some (0, w') ∧ PO_ M p i b j x v0 w0 v w v' w' := by
  have hi := e.2.2.1
  have hp := e.2.1
  have hx2 : 0 ≤ x ∧ x < 96 := by omega
  have HF : ∀ a, 827 ≤ a ∧ a ≤ 831 → hf_ i a x := fun a ha => hf_l hi hb hj.2 hx ha
  have hu : J_ M p i v0 w0 v (up_ w 828 x 0) := J_rw e h (Or.inl (HF _ (by decide)))
  have t26 : TkS_ 6 26 := by unfold TkS_; omega
  unfold fX3_parseLine fX12_tellLine
  rw [ck_t hx2, lt_d, show (814 : Int) + 14 = 828 from rfl, sees_e e h, is_s e hu h0 t26]
  by_cases c : v0 6 (v 3 5) = 6
  · -- a store
    rw [if_pos c, if_pos c, bd_s, bd_s, if_neg n10_, if_neg n10_]
    try dsimp only
    obtain ⟨v1, w1, c1, r1, h1, q1, q2, z1⟩ := take_N e hu h0 (by omega)
    have g1 : J_ M p i v0 w0 v1 (up_ (up_ w1 827 x 2) 829 x (-2)) := J_rw e (J_rw e h1 (Or.inl (HF _ (by decide)))) (Or.inl (HF _ (by decide)))
    obtain ⟨a, a', v2, w2, c2, r2, h2, q3, q4, z2⟩ := takeVal_J e g1
    have g2 : J_ M p i v0 w0 v2 (up_ w2 830 x a') := J_rw e h2 (Or.inl (HF _ (by decide)))
    obtain ⟨v3, w3, c3, r3, h3, q5, q6, z3⟩ := expect_J e g2 (s := 61) (t := 5) (by unfold TkS_; omega) (by decide)
    obtain ⟨d, d', v4, w4, c4, r4, h4, q7, q8, z4⟩ := takeVal_J e h3
    have j4 : v4 (p + 1) b = j := by
      rw [q7 _ _ (by omega), q5 _ _ (by omega), q3 _ _ (by omega), q1 _ _ (by omega)]; exact hj.1
    obtain ⟨-, -, -, p4, -⟩ := J_tok e h4
    have g4 : J_ M p i v0 w0 (al_ v4 p b j 5 (-2) a d) (up_ w4 831 x d') := J_wr e (J_rw e h4 (Or.inl (HF 831 (by decide)))) (fun a k g1 g2 => al_o (by omega) (by omega)) (fun _ _ _ _ _ _ => rfl) (GD_al hp h4.2.2.1 hb.1 hj.2)
    obtain ⟨v5, w5, c5, r5, h5, q9, q10, z5⟩ := expect_J e g4 (s := 59) (t := 4) (by unfold TkS_; omega) (by decide)
    refine ⟨v5, w5, ?_, ?_, h5, ?_, ?_, ?_, fun z => ?_⟩
    · rw [c1, bd_s]
      try dsimp only
      rw [c2, bd_s]
      try dsimp only
      rw [c3, bd_s]
      try dsimp only
      rw [c4, bd_s]
      try dsimp only
      rw [ck_t (by rw [p4]; exact hp), p4, addLine_e hp hb ⟨j4, hj.2⟩, bd_s]
      try dsimp only
      rw [c5, bd_s]
    · rw [r1, bd_s, ck_t hx2, lt_d, ck_t hx2, lt_d, show (814 : Int) + 13 = 827 from rfl, show (814 : Int) + 15 = 829 from rfl]
      try dsimp only
      rw [r2, bd_s, ck_t hx2, lt_d, show (814 : Int) + 16 = 830 from rfl]
      try dsimp only
      rw [r3, bd_s]
      try dsimp only
      rw [r4, bd_s, ck_t hx2, lt_d, show (814 : Int) + 17 = 831 from rfl]
      try dsimp only
      rw [r5, bd_s]
    · exact PL1_tr (PL1_ec q1) (PL1_tr (PL1_ec q3) (PL1_tr (PL1_ec q5) (PL1_tr (PL1_ec q7) (PL1_tr PL1_al (PL1_ec q9)))))
    · exact PL2_tr (PL2_up (by decide)) (PL2_tr (PL2_er q2) (PL2_tr (PL2_up (by decide)) (PL2_tr (PL2_up (by decide)) (PL2_tr (PL2_er q4) (PL2_tr (PL2_up (by decide)) (PL2_tr (PL2_er q6) (PL2_tr (PL2_er q8) (PL2_tr (PL2_up (by decide)) (PL2_er q10)))))))))
    · rw [q9 _ _ (by omega), al_1]
    · obtain ⟨y1, -, -⟩ := z5 z
      have y2 : v4 3 6 = 0 := by
        rw [al_o (by omega) (by omega)] at y1; exact y1
      obtain ⟨y3, d1, d2, -⟩ := z4 y2
      obtain ⟨y4, -, -⟩ := z3 y3
      obtain ⟨y5, a1, a2, -⟩ := z2 y4
      have S := sl_i (v := v4) (y := p + 8 + (6 * b + j)) (o := 5) (r := -2) (a := a) (b := d)
      refine ⟨h0, 2, 0, -2, a', d', ⟨?_, ?_, ?_, ?_⟩, ⟨Or.inr (Or.inr ⟨rfl, rfl, rfl⟩), a2, d2⟩, ?_, ?_, ?_, ?_, ?_⟩
      · rw [q9 _ _ (by omega), al_i hb.1 hj.2.1, S.1]
        rfl
      · rw [q9 _ _ (by omega), al_i hb.1 hj.2.1, S.2.1]
      · rw [q9 _ _ (by omega), al_i hb.1 hj.2.1, S.2.2.1, a1]
      · rw [q9 _ _ (by omega), al_i hb.1 hj.2.1, S.2.2.2, d1]
      · rw [q10 _ _ (by omega), up_n (by omega), q8 _ _ (by omega), q6 _ _ (by omega), up_n (by omega), q4 _ _ (by omega), up_n (by omega), up_s ⟨rfl, rfl⟩]
      · rw [q10 _ _ (by omega), up_n (by omega), q8 _ _ (by omega), q6 _ _ (by omega), up_n (by omega), q4 _ _ (by omega), up_n (by omega), up_n (by omega), q2 _ _ (by omega), up_s ⟨rfl, rfl⟩]
      · rw [q10 _ _ (by omega), up_n (by omega), q8 _ _ (by omega), q6 _ _ (by omega), up_n (by omega), q4 _ _ (by omega), up_s ⟨rfl, rfl⟩]
      · rw [q10 _ _ (by omega), up_n (by omega), q8 _ _ (by omega), q6 _ _ (by omega), up_s ⟨rfl, rfl⟩]
      · rw [q10 _ _ (by omega), up_s ⟨rfl, rfl⟩]
  · -- a register is set
    rw [if_neg c, if_neg c, bd_s, bd_s, if_pos rfl, if_pos rfl]
    try dsimp only
    obtain ⟨r, r', v1, w1, c1, r1, hr, h1, q1, q2, z1⟩ := takeReg_J e hu
    have g1 : J_ M p i v0 w0 v1 (up_ w1 829 x r') := J_rw e h1 (Or.inl (HF _ (by decide)))
    obtain ⟨v2, w2, c2, r2, h2, q3, q4, z2⟩ := expect_J e g1 (s := 61) (t := 5) (by unfold TkS_; omega) (by decide)
    have j2 : v2 (p + 1) b = j := by
      rw [q3 _ _ (by omega), q1 _ _ (by omega)]; exact hj.1
    have P1 : PL1_ p b j v v2 := PL1_tr (PL1_ec q1) (PL1_ec q3)
    have P2 : PL2_ x w w2 := PL2_tr (PL2_up (by decide)) (PL2_tr (PL2_er q2) (PL2_tr (PL2_up (by decide)) (PL2_er q4)))
    have w28 : w2 828 x = 0 := by rw [q4 _ _ (by omega), up_n (by omega), q2 _ _ (by omega), up_s ⟨rfl, rfl⟩]
    have w29 : v2 3 6 = 0 → w2 829 x = r := fun z => by
      rw [q4 _ _ (by omega), up_s ⟨rfl, rfl⟩]
      exact (z1 (z2 z).1).2.1
    have PO : ∀ v' w', PO_ M p i b j x v0 w0 v2 w2 v' w' → PO_ M p i b j x v0 w0 v w v' w' := fun v' w' ⟨o1, o2, o3, o4, o5⟩ => ⟨o1, PL1_tr P1 o2, PL2_tr P2 o3, o4, fun z => ⟨h0, (o5 z).2⟩⟩
    rw [c1, bd_s, r1, bd_s, ck_t hx2, lt_d, show (814 : Int) + 15 = 829 from rfl]
    try dsimp only
    rw [c2, bd_s, r2, bd_s]
    try dsimp only
    rw [sees_e e h2]
    by_cases z : v2 3 6 = 0
    · rw [is_s e h2 z t26]
      by_cases d : v0 6 (v2 3 5) = 6
      · rw [if_pos d, if_pos d, bd_s, bd_s, if_neg n10_, if_neg n10_]
        obtain ⟨v', w', o1, o2, o3⟩ := load_J e h2 z d hb ⟨j2, hj.2⟩ hx hr w28 (w29 z)
        exact ⟨v', w', o1, o2, PO _ _ o3⟩
      · rw [if_neg d, if_neg d, bd_s, bd_s, if_pos rfl, if_pos rfl]
        obtain ⟨v', w', o1, o2, o3⟩ := op_J e h2 hb ⟨j2, hj.2⟩ hx hr w28 w29
        exact ⟨v', w', o1, o2, PO _ _ o3⟩
    · have k := JF_ h2
      rw [is_F (show w2 814 13 ≠ 0 by omega), bd_s, if_pos rfl]
      by_cases d : v0 6 (v2 3 5) = 6
      · rw [if_pos d, bd_s, if_neg n10_]
        obtain ⟨w', o1, o2, o3⟩ := op_r e h2 z hb hj.2 hx
        have z' := z
        obtain ⟨v', n1, n2, n3, n4, n5⟩ := load_c (r := r) e o2 z hb ⟨j2, hj.2⟩
        exact ⟨v', w', n1, o1, PO _ _ ⟨n2, n3, o3, n4, fun q => absurd q n5⟩⟩
      · rw [if_neg d, bd_s, if_pos rfl]
        obtain ⟨v', w', o1, o2, o3⟩ := op_J e h2 hb ⟨j2, hj.2⟩ hx hr w28 w29
        exact ⟨v', w', o1, o2, PO _ _ o3⟩
end PLINE3
