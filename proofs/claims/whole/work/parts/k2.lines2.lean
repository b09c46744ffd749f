/-! layer 2: a line told, in both: all -/
def PL1_ (p b j : Int) (v v' : V_) : Prop := ∀ a k, ¬ (a = 3 ∧ (k = 5 ∨ k = 6)) → ¬ (a = p + 1 ∧ k = b) → a ≠ p + 8 + (6 * b + j) → v' a k = v a k
def PL2_ (x : Int) (w w' : V_) : Prop := ∀ a k, ¬ (a = 814 ∧ (k = 11 ∨ k = 13 ∨ k = 14)) → ¬ (827 ≤ a ∧ a ≤ 831 ∧ k = x) → w' a k = w a k
/-- what stands of a line behind it -/
def PO_ (M p i b j x : Int) (v0 w0 v w v' w' : V_) : Prop := J_ M p i v0 w0 v' w' ∧ PL1_ p b j v v' ∧ PL2_ x w w' ∧ v' (p + 1) b = j + 1 ∧ (v' 3 6 = 0 → v 3 6 = 0 ∧ ∃ so o r a c, SL_ v' (p + 8 + (6 * b + j)) so o r a c ∧ LN_ so o r a c ∧ w' 827 x = so ∧ w' 828 x = o ∧ w' 829 x = r ∧ w' 830 x = a ∧ w' 831 x = c)
section PLINE2
variable {M p i : Int} {v0 w0 v w v' w' : V_} {s t b c x j r : Int}
theorem PL1_tr {u : V_} (h : PL1_ p b j u v) (h2 : PL1_ p b j v w) : PL1_ p b j u w := fun a k q q2 q3 => (h2 a k q q2 q3).trans (h a k q q2 q3)
theorem PL2_tr {u : V_} (h : PL2_ x u v) (h2 : PL2_ x v w) : PL2_ x u w := fun a k q q2 => (h2 a k q q2).trans (h a k q q2)
theorem PL1_ec (h : Ec_ v v') : PL1_ p b j v v' := fun a k q _ _ => h a k q
theorem PL2_er (h : Er_ w w') : PL2_ x w w' := fun a k q _ => h a k q
theorem PL2_up {a y : Int} (ha : 827 ≤ a ∧ a ≤ 831) : PL2_ x w (up_ w a x y) := fun a' k q q2 => up_n (by omega)
theorem PL1_al {o r a d : Int} : PL1_ p b j v (al_ v p b j o r a d) := fun _ _ _ q2 q3 => al_o q2 q3
/-- an op told -/
theorem op_J (e : EV_ M p i v0 w0) (h : J_ M p i v0 w0 v w) (hb : 0 ≤ b ∧ b < 8) (hj : v (p + 1) b = j ∧ 0 ≤ j ∧ j < 6) (hx : x = 6 * (8 * i + b) + j) (hr : 0 ≤ r ∧ r < 6) (w28 : w 828 x = 0) (w29 : v 3 6 = 0 → w 829 x = r) : ∃ v' w', (bd_ (fX3_takeValue 3 v) fun q7 =>
      bd_ (fX3_takeOp 3 q7.2) fun q8 =>
      bd_ (fX3_takeValue 3 q8.2) fun q9 =>
      ck_ (q9.2 3 4 = PA_ ∨ q9.2 3 4 = PB_) (
      bd_ (fX5_addLine (q9.2 3 4) b q8.1 r q7.1 q9.1 q9.2) fun q12 =>
      bd_ (fX3_expect 3 59 q12.2) fun q13 =>
      some ((0 : Int), q13.2))) = some (0, v') ∧ (ck_ (0 ≤ x ∧ x < 96) (
      lt_ (up_ w (814 + 13) x 0) fun v15 =>
      bd_ (fX12_valueTold 814 v15) fun q17 =>
      ck_ (0 ≤ x ∧ x < 96) (
      lt_ (up_ q17.2 (814 + 16) x q17.1) fun v19 =>
      bd_ (fX12_is 814 8 v19) fun q20 =>
      if q20.1 = 0 then (
        bd_ (fX12_is 814 9 q20.2) fun q22 =>
        if q22.1 = 0 then (
          bd_ (fX12_is 814 10 q22.2) fun q24 =>
          if q24.1 = 0 then (
            bd_ (fX12_is 814 15 q24.2) fun q26 =>
            if q26.1 = 0 then (
              bd_ (fX12_fail 814 1 q26.2) fun q28 =>
              fX12_tellLine_223 814 x q28.2)
            else (
              ck_ (0 ≤ x ∧ x < 96) (
              lt_ (up_ q26.2 (814 + 14) x 3) fun v38 =>
              fX12_tellLine_223 814 x v38)))
          else (
            ck_ (0 ≤ x ∧ x < 96) (
            lt_ (up_ q24.2 (814 + 14) x 2) fun v41 =>
            fX12_tellLine_223 814 x v41)))
        else (
          ck_ (0 ≤ x ∧ x < 96) (
          lt_ (up_ q22.2 (814 + 14) x 1) fun v44 =>
          fX12_tellLine_223 814 x v44)))
      else (
        ck_ (0 ≤ x ∧ x < 96) (
        lt_ (up_ q20.2 (814 + 14) x 0) fun v47 =>
        fX12_tellLine_223 814 x v47))))) = some (0, w') ∧ PO_ M p i b j x v0 w0 v w v' w' := by
  have hi := e.2.2.1
  have hp := e.2.1
  have hx2 : 0 ≤ x ∧ x < 96 := by omega
  have HF : ∀ a, 827 ≤ a ∧ a ≤ 831 → hf_ i a x := fun a ha => hf_l hi hb hj.2 hx ha
  have h1 : J_ M p i v0 w0 v (up_ w 827 x 0) := J_rw e h (Or.inl (HF _ (by decide)))
  obtain ⟨a, a', v1, w1, c1, r1, h2, q1, q2, z1⟩ := takeVal_J e h1
  have h3 : J_ M p i v0 w0 v1 (up_ w1 830 x a') := J_rw e h2 (Or.inl (HF _ (by decide)))
  obtain ⟨o, v2, w2, c2, r2, h4, q3, q4, z2⟩ := takeOp_J e h3 hb hj.2 hx (by rw [up_n (by omega), q2 _ _ (by omega), up_n (by omega)]; exact w28)
  obtain ⟨d, d', v3, w3, c3, r3, h5, q5, q6, z3⟩ := takeVal_J e h4
  have j3 : v3 (p + 1) b = j := by
    rw [q5 _ _ (by omega), q3 _ _ (by omega), q1 _ _ (by omega)]; exact hj.1
  obtain ⟨-, -, -, p3, -⟩ := J_tok e h5
  have h6 : J_ M p i v0 w0 (al_ v3 p b j o r a d) (up_ w3 831 x d') := J_wr e (J_rw e h5 (Or.inl (HF 831 (by decide)))) (fun a k g1 g2 => al_o (by omega) (by omega)) (fun _ _ _ _ _ _ => rfl) (GD_al hp h5.2.2.1 hb.1 hj.2)
  obtain ⟨v4, w4, c4, r4, h7, q7, q8, z4⟩ := expect_J e h6 (s := 59) (t := 4) (by unfold TkS_; omega) (by decide)
  refine ⟨v4, w4, ?_, ?_, h7, ?_, ?_, ?_, fun z => ?_⟩
  · rw [c1, bd_s]
    try dsimp only
    rw [c2, bd_s]
    try dsimp only
    rw [c3, bd_s]
    try dsimp only
    rw [ck_t (by rw [p3]; exact hp), p3, addLine_e hp hb ⟨j3, hj.2⟩, bd_s]
    try dsimp only
    rw [c4, bd_s]
  · rw [ck_t hx2, lt_d, show (814 : Int) + 13 = 827 from rfl, r1, bd_s, ck_t hx2, lt_d]
    try dsimp only
    rw [show (814 : Int) + 16 = 830 from rfl, r2, fX12_tellLine_234, r3, bd_s, ck_t hx2, lt_d, show (814 : Int) + 17 = 831 from rfl, r4, bd_s]
  · exact PL1_tr (PL1_ec q1) (PL1_tr (PL1_ec q3) (PL1_tr (PL1_ec q5) (PL1_tr PL1_al (PL1_ec q7))))
  · exact PL2_tr (PL2_up (by decide)) (PL2_tr (PL2_er q2) (PL2_tr (PL2_up (by decide)) (PL2_tr (fun a k g g2 => q4 a k g (by omega)) (PL2_tr (PL2_er q6) (PL2_tr (PL2_up (by decide)) (PL2_er q8))))))
  · rw [q7 _ _ (by omega), al_1]
  · obtain ⟨y1, -, -⟩ := z4 z
    have y2 : v3 3 6 = 0 := by
      rw [al_o (by omega) (by omega)] at y1; exact y1
    obtain ⟨y3, d1, d2, -⟩ := z3 y2
    obtain ⟨y4, o1, o2⟩ := z2 y3
    obtain ⟨y5, a1, a2, -⟩ := z1 y4
    have S := sl_i (v := v3) (y := p + 8 + (6 * b + j)) (o := o) (r := r) (a := a) (b := d)
    refine ⟨y5, 0, o, r, a', d', ⟨?_, ?_, ?_, ?_⟩, ⟨Or.inl ⟨rfl, o1.1, o1.2, hr⟩, a2, d2⟩, ?_, ?_, ?_, ?_, ?_⟩
    · rw [q7 _ _ (by omega), al_i hb.1 hj.2.1, S.1]
      unfold opc_
      rw [if_pos rfl]
    · rw [q7 _ _ (by omega), al_i hb.1 hj.2.1, S.2.1]
    · rw [q7 _ _ (by omega), al_i hb.1 hj.2.1, S.2.2.1, a1]
    · rw [q7 _ _ (by omega), al_i hb.1 hj.2.1, S.2.2.2, d1]
    · rw [q8 _ _ (by omega), up_n (by omega), q6 _ _ (by omega), q4 _ _ (by omega) (by omega), up_n (by omega), q2 _ _ (by omega), up_s ⟨rfl, rfl⟩]
    · rw [q8 _ _ (by omega), up_n (by omega), q6 _ _ (by omega)]
      exact o2
    · rw [q8 _ _ (by omega), up_n (by omega), q6 _ _ (by omega), q4 _ _ (by omega) (by omega), up_n (by omega), q2 _ _ (by omega), up_n (by omega)]
      exact w29 y5
    · rw [q8 _ _ (by omega), up_n (by omega), q6 _ _ (by omega), q4 _ _ (by omega) (by omega), up_s ⟨rfl, rfl⟩]
    · rw [q8 _ _ (by omega), up_s ⟨rfl, rfl⟩]
/-- a load told: the class, in any state -/
theorem load_c (e : EV_ M p i v0 w0) (h : J_ M p i v0 w0 v w) (hF : v 3 6 ≠ 0) (hb : 0 ≤ b ∧ b < 8) (hj : v (p + 1) b = j ∧ 0 ≤ j ∧ j < 6) : ∃ v', (bd_ (fX3_take 3 v) fun q14 =>
      ck_ (q14.2 3 4 = PA_ ∨ q14.2 3 4 = PB_) (
      bd_ (fX3_takeValue 3 q14.2) fun q17 =>
      bd_ (fX5_addLine (q14.2 3 4) b 4 r q17.1 0 q17.2) fun q18 =>
      bd_ (fX3_expect 3 59 q18.2) fun q19 =>
      some ((0 : Int), q19.2))) = some (0, v') ∧ J_ M p i v0 w0 v' w ∧ PL1_ p b j v v' ∧ v' (p + 1) b = j + 1 ∧ v' 3 6 ≠ 0 := by
  have hp := e.2.1
  obtain ⟨-, -, -, p3, -⟩ := J_tok e h
  obtain ⟨a, a1⟩ := takeVal_F e h hF
  have h6 : J_ M p i v0 w0 (al_ v p b j 4 r a 0) w := J_wr e h (fun a k g1 g2 => al_o (by omega) (by omega)) (fun _ _ _ _ _ _ => rfl) (GD_al hp h.2.2.1 hb.1 hj.2)
  have z6 : al_ v p b j 4 r a 0 3 6 ≠ 0 := by rw [al_o (by omega) (by omega)]; exact hF
  refine ⟨_, ?_, h6, PL1_al, al_1, z6⟩
  rw [take_F hF, bd_s]
  try dsimp only
  rw [ck_t (by rw [p3]; exact hp), a1, bd_s, p3]
  try dsimp only
  rw [addLine_e hp hb hj, bd_s]
  try dsimp only
  rw [expect_F e h6 z6, bd_s]
/-- the reference's line behind a fault -/
theorem op_r (e : EV_ M p i v0 w0) (h : J_ M p i v0 w0 v w) (hF : v 3 6 ≠ 0) (hb : 0 ≤ b ∧ b < 8) (hj : 0 ≤ j ∧ j < 6) (hx : x = 6 * (8 * i + b) + j) : ∃ w', (ck_ (0 ≤ x ∧ x < 96) (
      lt_ (up_ w (814 + 13) x 0) fun v15 =>
      bd_ (fX12_valueTold 814 v15) fun q17 =>
      ck_ (0 ≤ x ∧ x < 96) (
      lt_ (up_ q17.2 (814 + 16) x q17.1) fun v19 =>
      bd_ (fX12_is 814 8 v19) fun q20 =>
      if q20.1 = 0 then (
        bd_ (fX12_is 814 9 q20.2) fun q22 =>
        if q22.1 = 0 then (
          bd_ (fX12_is 814 10 q22.2) fun q24 =>
          if q24.1 = 0 then (
            bd_ (fX12_is 814 15 q24.2) fun q26 =>
            if q26.1 = 0 then (
              bd_ (fX12_fail 814 1 q26.2) fun q28 =>
              fX12_tellLine_223 814 x q28.2)
            else (
              ck_ (0 ≤ x ∧ x < 96) (
              lt_ (up_ q26.2 (814 + 14) x 3) fun v38 =>
              fX12_tellLine_223 814 x v38)))
          else (
            ck_ (0 ≤ x ∧ x < 96) (
            lt_ (up_ q24.2 (814 + 14) x 2) fun v41 =>
            fX12_tellLine_223 814 x v41)))
        else (
          ck_ (0 ≤ x ∧ x < 96) (
          lt_ (up_ q22.2 (814 + 14) x 1) fun v44 =>
          fX12_tellLine_223 814 x v44)))
      else (
        ck_ (0 ≤ x ∧ x < 96) (
        lt_ (up_ q20.2 (814 + 14) x 0) fun v47 =>
        fX12_tellLine_223 814 x v47))))) = some (0, w') ∧ J_ M p i v0 w0 v w' ∧ PL2_ x w w' := by
  have hi := e.2.2.1
  have hx2 : 0 ≤ x ∧ x < 96 := by omega
  have HF : ∀ a, 827 ≤ a ∧ a ≤ 831 → hf_ i a x := fun a ha => hf_l hi hb hj hx ha
  have h1 : J_ M p i v0 w0 v (up_ w 827 x 0) := J_rw e h (Or.inl (HF _ (by decide)))
  have h3 : J_ M p i v0 w0 v (up_ (up_ w 827 x 0) 830 x 0) := J_rw e h1 (Or.inl (HF _ (by decide)))
  have h5 : J_ M p i v0 w0 v (up_ (up_ (up_ w 827 x 0) 830 x 0) 831 x 0) := J_rw e h3 (Or.inl (HF _ (by decide)))
  have k := JF_ h3
  have k5 := JF_ h5
  refine ⟨_, ?_, h5, PL2_tr (PL2_up (by decide)) (PL2_tr (PL2_up (by decide)) (PL2_up (by decide)))⟩
  rw [ck_t hx2, lt_d, show (814 : Int) + 13 = 827 from rfl, valTold_F e h1 hF, bd_s, ck_t hx2, lt_d]
  try dsimp only
  rw [show (814 : Int) + 16 = 830 from rfl, is_F (by omega), bd_s, if_pos rfl]
  try dsimp only
  rw [is_F (by omega), bd_s, if_pos rfl]
  try dsimp only
  rw [is_F (by omega), bd_s, if_pos rfl]
  try dsimp only
  rw [is_F (by omega), bd_s, if_pos rfl]
  try dsimp only
  rw [rfail_F (by omega), bd_s, fX12_tellLine_223, if_neg (show ¬ up_ (up_ w 827 x 0) 830 x 0 814 13 = 0 by omega), fX12_tellLine_234, valTold_F e h3 hF, bd_s, ck_t hx2, lt_d, show (814 : Int) + 17 = 831 from rfl]
  try dsimp only
  rw [must_F (by omega), bd_s]
/-- a load told -/
theorem load_J (e : EV_ M p i v0 w0) (h : J_ M p i v0 w0 v w) (h0 : v 3 6 = 0) (hs : v0 6 (v 3 5) = 6) (hb : 0 ≤ b ∧ b < 8) (hj : v (p + 1) b = j ∧ 0 ≤ j ∧ j < 6) (hx : x = 6 * (8 * i + b) + j) (hr : 0 ≤ r ∧ r < 6) (w28 : w 828 x = 0) (w29 : w 829 x = r) : ∃ v' w', (bd_ (fX3_take 3 v) fun q14 =>
      ck_ (q14.2 3 4 = PA_ ∨ q14.2 3 4 = PB_) (
      bd_ (fX3_takeValue 3 q14.2) fun q17 =>
      bd_ (fX5_addLine (q14.2 3 4) b 4 r q17.1 0 q17.2) fun q18 =>
      bd_ (fX3_expect 3 59 q18.2) fun q19 =>
      some ((0 : Int), q19.2))) = some (0, v') ∧ (bd_ (fX12_goesOn 814 w) fun q48 =>
      ck_ (0 ≤ x ∧ x < 96) (
      lt_ (up_ q48.2 (814 + 13) x 1) fun v51 =>
      bd_ (fX12_valueTold 814 v51) fun q53 =>
      ck_ (0 ≤ x ∧ x < 96) (
      lt_ (up_ q53.2 (814 + 16) x q53.1) fun v55 =>
      ck_ (0 ≤ x ∧ x < 96) (
      lt_ (up_ v55 (814 + 17) x 20) fun v58 =>
      bd_ (fX12_must 814 4 v58) fun q59 =>
      some ((0 : Int), q59.2))))) = some (0, w') ∧ PO_ M p i b j x v0 w0 v w v' w' := by
  have hi := e.2.2.1
  have hp := e.2.1
  have hx2 : 0 ≤ x ∧ x < 96 := by omega
  have HF : ∀ a, 827 ≤ a ∧ a ≤ 831 → hf_ i a x := fun a ha => hf_l hi hb hj.2 hx ha
  obtain ⟨v0', w0', c0, r0, h0', q9, q10, z0⟩ := take_N e h h0 (by omega)
  have h1 : J_ M p i v0 w0 v0' (up_ w0' 827 x 1) := J_rw e h0' (Or.inl (HF _ (by decide)))
  obtain ⟨a, a', v1, w1, c1, r1, h2, q1, q2, z1⟩ := takeVal_J e h1
  have h3 : J_ M p i v0 w0 v1 (up_ (up_ w1 830 x a') 831 x 20) := J_rw e (J_rw e h2 (Or.inl (HF _ (by decide)))) (Or.inl (HF _ (by decide)))
  have j3 : v1 (p + 1) b = j := by
    rw [q1 _ _ (by omega), q9 _ _ (by omega)]; exact hj.1
  obtain ⟨-, -, -, p3, -⟩ := J_tok e h0'
  have h6 : J_ M p i v0 w0 (al_ v1 p b j 4 r a 0) (up_ (up_ w1 830 x a') 831 x 20) := J_wr e h3 (fun a k g1 g2 => al_o (by omega) (by omega)) (fun _ _ _ _ _ _ => rfl) (GD_al hp h3.2.2.1 hb.1 hj.2)
  obtain ⟨v4, w4, c4, r4, h7, q7, q8, z4⟩ := expect_J e h6 (s := 59) (t := 4) (by unfold TkS_; omega) (by decide)
  refine ⟨v4, w4, ?_, ?_, h7, ?_, ?_, ?_, fun z => ?_⟩
  · rw [c0, bd_s]
    try dsimp only
    rw [ck_t (by rw [p3]; exact hp), c1, bd_s, p3]
    try dsimp only
    rw [addLine_e hp hb ⟨j3, hj.2⟩, bd_s]
    try dsimp only
    rw [c4, bd_s]
  · rw [r0, bd_s, ck_t hx2, lt_d, show (814 : Int) + 13 = 827 from rfl]
    try dsimp only
    rw [r1, bd_s, ck_t hx2, lt_d, ck_t hx2, lt_d, show (814 : Int) + 16 = 830 from rfl, show (814 : Int) + 17 = 831 from rfl]
    try dsimp only
    rw [r4, bd_s]
  · exact PL1_tr (PL1_ec q9) (PL1_tr (PL1_ec q1) (PL1_tr PL1_al (PL1_ec q7)))
  · exact PL2_tr (PL2_er q10) (PL2_tr (PL2_up (by decide)) (PL2_tr (PL2_er q2) (PL2_tr (PL2_up (by decide)) (PL2_tr (PL2_up (by decide)) (PL2_er q8)))))
  · rw [q7 _ _ (by omega), al_1]
  · obtain ⟨y1, -, -⟩ := z4 z
    have y2 : v1 3 6 = 0 := by
      rw [al_o (by omega) (by omega)] at y1; exact y1
    obtain ⟨y5, a1, a2, -⟩ := z1 y2
    have S := sl_i (v := v1) (y := p + 8 + (6 * b + j)) (o := 4) (r := r) (a := a) (b := 0)
    refine ⟨h0, 1, 0, r, a', 20, ⟨?_, ?_, ?_, ?_⟩, ⟨Or.inr (Or.inl ⟨rfl, rfl, hr.1, hr.2, rfl⟩), a2, Or.inr (by decide)⟩, ?_, ?_, ?_, ?_, ?_⟩
    · rw [q7 _ _ (by omega), al_i hb.1 hj.2.1, S.1]
      rfl
    · rw [q7 _ _ (by omega), al_i hb.1 hj.2.1, S.2.1]
    · rw [q7 _ _ (by omega), al_i hb.1 hj.2.1, S.2.2.1, a1]
    · rw [q7 _ _ (by omega), al_i hb.1 hj.2.1, S.2.2.2]
      rfl
    · rw [q8 _ _ (by omega), up_n (by omega), up_n (by omega), q2 _ _ (by omega), up_s ⟨rfl, rfl⟩]
    · rw [q8 _ _ (by omega), up_n (by omega), up_n (by omega), q2 _ _ (by omega), up_n (by omega), q10 _ _ (by omega)]
      exact w28
    · rw [q8 _ _ (by omega), up_n (by omega), up_n (by omega), q2 _ _ (by omega), up_n (by omega), q10 _ _ (by omega)]
      exact w29
    · rw [q8 _ _ (by omega), up_n (by omega), up_s ⟨rfl, rfl⟩]
    · rw [q8 _ _ (by omega), up_s ⟨rfl, rfl⟩]
end PLINE2
