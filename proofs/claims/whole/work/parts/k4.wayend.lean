/-! layer 2: how a block ends, told, in both -/
def PE1_ (p b : Int) (v v' : V_) : Prop := ∀ a k, ¬ (a = 3 ∧ (k = 5 ∨ k = 6)) → a ≠ p + 56 + b → ¬ (10 ≤ a ∧ a ≤ 11 ∧ (k = 2 * b ∨ k = 2 * b + 1)) → v' a k = v a k
def PE2_ (x : Int) (w w' : V_) : Prop := ∀ a k, ¬ (a = 814 ∧ (k = 11 ∨ k = 13 ∨ k = 14)) → ¬ (832 ≤ a ∧ a ≤ 834 ∧ k = x) → ¬ (835 ≤ a ∧ a ≤ 836 ∧ (k = 2 * x ∨ k = 2 * x + 1)) → w' a k = w a k
/-- a way told: its token -/
def WY_ (M b x k : Int) (v0 w0 v w : V_) : Prop := ∃ T, (0 ≤ T ∧ T < M) ∧ v0 6 T = 17 ∧ v 10 (2 * b + k) = v0 8 T ∧ v 11 (2 * b + k) = w0 818 T ∧ w 836 (2 * x + k) = T
/-- an end told -/
def EB_ (M p b x : Int) (v0 w0 v w : V_) : Prop := SE_ v (p + 56 + b) (w 832 x) (w 833 x) (w 834 x) ∧ w 835 (2 * x) = -2 ∧ w 835 (2 * x + 1) = -2 ∧ ((w 832 x = 0 ∧ w 833 x = 20 ∧ w 834 x = 20 ∧ WY_ M b x 0 v0 w0 v w ∧ v 10 (2 * b + 1) = 0) ∨ (w 832 x = 1 ∧ VR_ (w 833 x) ∧ VR_ (w 834 x) ∧ WY_ M b x 0 v0 w0 v w ∧ WY_ M b x 1 v0 w0 v w) ∨ (w 832 x = 2 ∧ w 833 x = 20 ∧ w 834 x = 20 ∧ v 10 (2 * b) = 0 ∧ v 10 (2 * b + 1) = 0))
def EO_ (M p b x : Int) (v0 w0 v w v' w' : V_) (i : Int) : Prop := J_ M p i v0 w0 v' w' ∧ PE1_ p b v v' ∧ PE2_ x w w' ∧ (v' 3 6 = 0 → EB_ M p b x v0 w0 v' w')
section PEND
variable {M p i : Int} {v0 w0 v w v' w' : V_} {s t b c x k : Int}
theorem PE1_tr {u : V_} (h : PE1_ p b u v) (h2 : PE1_ p b v w) : PE1_ p b u w := fun a k q q2 q3 => (h2 a k q q2 q3).trans (h a k q q2 q3)
theorem PE2_tr {u : V_} (h : PE2_ x u v) (h2 : PE2_ x v w) : PE2_ x u w := fun a k q q2 q3 => (h2 a k q q2 q3).trans (h a k q q2 q3)
theorem PE1_r : PE1_ p b v v := fun _ _ _ _ _ => rfl
theorem PE1_ec (h : Ec_ v v') : PE1_ p b v v' := fun a k q _ _ => h a k q
theorem PE2_er (h : Er_ w w') : PE2_ x w w' := fun a k q _ _ => h a k q
theorem PE1_sl {o r a d : Int} : PE1_ p b v (sl_ v (p + 56 + b) o r a d) := fun _ _ _ q _ => sl_o q
theorem PE2_up {a y : Int} (ha : 832 ≤ a ∧ a ≤ 834) : PE2_ x w (up_ w a x y) := fun a' k q q2 _ => up_n (by omega)
theorem J_cw (e : EV_ M p i v0 w0) (h : J_ M p i v0 w0 v w) (f : ∀ a k, ¬ (9 ≤ a ∧ a ≤ 11) → ¬ (p + 2 ≤ a ∧ a < p + 64) → v' a k = v a k) : J_ M p i v0 w0 v' w := by
  have hp := e.2.1
  exact J_wr e h (fun a k q q2 => f a k q (by omega)) (fun _ _ _ _ _ _ => rfl) (GD_p hp h.2.2.1 (f _ _ (by omega) (by omega)) (fun k _ _ => f _ _ (by omega) (by omega)))
theorem J_sl (e : EV_ M p i v0 w0) (h : J_ M p i v0 w0 v w) (hb : 0 ≤ b ∧ b < 8) {o r a d : Int} : J_ M p i v0 w0 (sl_ v (p + 56 + b) o r a d) w := J_cw e h fun a k _ q2 => sl_o (by omega)
def tw_ (v : V_) (b k y z : Int) : V_ := up_ (up_ v 11 (2 * b + k) y) 10 (2 * b + k) z
theorem tw_o {y z h j : Int} (q : ¬ (10 ≤ h ∧ h ≤ 11 ∧ j = 2 * b + k)) : tw_ v b k y z h j = v h j := by
  unfold tw_
  rw [up_n (by omega), up_n (by omega)]
theorem tellWay_e (e : EV_ M p i v0 w0) (h : J_ M p i v0 w0 v w) (hb : 0 ≤ b ∧ b < 8) (hk : 0 ≤ k ∧ k < 2) : J_ M p i v0 w0 (tw_ v b k (w0 818 (v 3 5)) (v0 8 (v 3 5))) w ∧ fX3_tellWay 3 b k v = bd_ (fX3_expect 3 17 (tw_ v b k (w0 818 (v 3 5)) (v0 8 (v 3 5)))) fun q11 => some (0, q11.2) := by
  have h1 : J_ M p i v0 w0 (tw_ v b k (w0 818 (v 3 5)) (v0 8 (v 3 5))) w := J_cw e h fun a j q _ => tw_o (by omega)
  have h2 : J_ M p i v0 w0 (up_ v 11 (2 * b + k) (w0 818 (v 3 5))) w := J_cw e h fun a j q _ => up_n (by omega)
  refine ⟨h1, ?_⟩
  unfold fX3_tellWay
  have V := valueAt_e e h2
  rw [show up_ v 11 (2 * b + k) (w0 818 (v 3 5)) 3 5 = v 3 5 from up_n (by omega)] at V
  rw [show (3 : Int) + 1 = 4 from rfl, placeAt_e e h, bd_s, wr_id (x := b * 2) (by omega), wr_id (by omega), ck_t (by omega), lt_d, show b * 2 + k = 2 * b + k by omega, show (3 : Int) + 8 = 11 from rfl]
  try dsimp only
  rw [up_n (by omega), V, bd_s, ck_t (by omega), lt_d]
  rfl
theorem tellWay_J (e : EV_ M p i v0 w0) (h : J_ M p i v0 w0 v w) (hb : 0 ≤ b ∧ b < 8) (hk : 0 ≤ k ∧ k < 2) (hx : x = 8 * i + b) : ∃ v' w', fX3_tellWay 3 b k v = some (0, v') ∧ fX12_wayTold 814 (2 * x + k) w = some (0, w') ∧ J_ M p i v0 w0 v' w' ∧ PE1_ p b v v' ∧ PE2_ x w w' ∧ (v' 3 6 = 0 → v 3 6 = 0 ∧ WY_ M b x k v0 w0 v' w') ∧ (∀ a j, 10 ≤ a → a ≤ 11 → j ≠ 2 * b + k → v' a j = v a j) ∧ (∀ a j, a = 835 ∨ (a = 836 ∧ j ≠ 2 * x + k) → w' a j = w a j) ∧ (∀ a, 832 ≤ a → a ≤ 834 → w' a x = w a x) ∧ ∀ k, v' (p + 56 + b) k = v (p + 56 + b) k := by
  have hi := e.2.2.1
  have hp := e.2.1
  obtain ⟨h1, E⟩ := tellWay_e e h hb hk
  have h2 : J_ M p i v0 w0 (tw_ v b k (w0 818 (v 3 5)) (v0 8 (v 3 5))) (up_ w 836 (2 * x + k) (v 3 5)) := J_rw e h1 (Or.inr (Or.inr rfl))
  obtain ⟨v', w', c1, r1, h3, q1, q2, z⟩ := expect_J e h2 (s := 17) (t := 1) (by unfold TkS_; omega) (by decide)
  have h5 : w 814 11 = v 3 5 := h.2.2.2.2.1
  have h4 := h.2.2.2.1
  refine ⟨v', w', by rw [E, c1, bd_s], ?_, h3, fun a j g g2 g3 => (q1 a j g).trans (tw_o (by omega)), fun a j g g2 g3 => (q2 a j g).trans (up_n (by omega)), fun y => ?_, fun a j g g2 g3 => (q1 a j (by omega)).trans (tw_o (by omega)), fun a j g => (q2 a j (by omega)).trans (up_n (by omega)), fun a g g2 => (q2 _ _ (by omega)).trans (up_n (by omega)), fun k => (q1 _ _ (by omega)).trans (tw_o (by omega))⟩
  · unfold fX12_wayTold
    rw [ck_t (by omega), lt_d, show (814 : Int) + 22 = 836 from rfl, h5, r1, bd_s]
  · obtain ⟨y1, y2, -⟩ := z y
    have e35 : tw_ v b k (w0 818 (v 3 5)) (v0 8 (v 3 5)) 3 5 = v 3 5 := tw_o (by omega)
    rw [e35] at y2
    refine ⟨(tw_o (by omega)).symm.trans y1, v 3 5, h4, y2, ?_, ?_, ?_⟩
    · rw [q1 _ _ (by omega)]
      exact up_s ⟨rfl, rfl⟩
    · rw [q1 _ _ (by omega)]
      unfold tw_
      rw [up_n (by omega), up_s ⟨rfl, rfl⟩]
    · rw [q2 _ _ (by omega), up_s ⟨rfl, rfl⟩]
theorem tellWay_F (e : EV_ M p i v0 w0) (h : J_ M p i v0 w0 v w) (hF : v 3 6 ≠ 0) (hb : 0 ≤ b ∧ b < 8) (hk : 0 ≤ k ∧ k < 2) : ∃ v', fX3_tellWay 3 b k v = some (0, v') ∧ J_ M p i v0 w0 v' w ∧ PE1_ p b v v' ∧ v' 3 6 ≠ 0 := by
  obtain ⟨h1, E⟩ := tellWay_e e h hb hk
  have z : tw_ v b k (w0 818 (v 3 5)) (v0 8 (v 3 5)) 3 6 ≠ 0 := by rw [tw_o (by omega)]; exact hF
  exact ⟨_, by rw [E, expect_F e h1 z, bd_s], h1, fun a j _ _ g => tw_o (by omega), z⟩
theorem wayTold_F (e : EV_ M p i v0 w0) (h : J_ M p i v0 w0 v w) (hF : v 3 6 ≠ 0) (hb : 0 ≤ b ∧ b < 8) (hk : 0 ≤ k ∧ k < 2) (hx : x = 8 * i + b) : ∃ w', fX12_wayTold 814 (2 * x + k) w = some (0, w') ∧ J_ M p i v0 w0 v w' ∧ PE2_ x w w' := by
  have hi := e.2.2.1
  have h2 : J_ M p i v0 w0 v (up_ w 836 (2 * x + k) (v 3 5)) := J_rw e h (Or.inr (Or.inr rfl))
  have k2 := JF_ h2
  have h5 : w 814 11 = v 3 5 := h.2.2.2.2.1
  refine ⟨_, ?_, h2, fun a j g g2 g3 => up_n (by omega)⟩
  unfold fX12_wayTold
  rw [ck_t (by omega), lt_d, show (814 : Int) + 22 = 836 from rfl, h5, must_F (by omega), bd_s]
/-- the class behind a fault -/
theorem parseEnd_F (e : EV_ M p i v0 w0) (h : J_ M p i v0 w0 v w) (hF : v 3 6 ≠ 0) (hb : 0 ≤ b ∧ b < 8) : ∃ v', fX3_parseEnd 3 b v = some (0, v') ∧ J_ M p i v0 w0 v' w ∧ PE1_ p b v v' ∧ v' 3 6 ≠ 0 := by
  have hp := e.2.1
  obtain ⟨-, -, -, p3, -⟩ := J_tok e h
  unfold fX3_parseEnd
  rw [sees_e e h]
  by_cases c1 : v0 6 (v 3 5) = 10
  · rw [if_pos c1, bd_s, if_neg n10_]
    try dsimp only
    rw [take_F hF, bd_s]
    try dsimp only
    rw [expect_F e h hF, bd_s]
    exact ⟨v, rfl, h, PE1_r, hF⟩
  · rw [if_neg c1, bd_s, if_pos rfl]
    try dsimp only
    rw [sees_e e h]
    by_cases c2 : v0 6 (v 3 5) = 7
    · have g1 : J_ M p i v0 w0 (sl_ v (p + 56 + b) 7 (-2) 0 0) w := J_sl e h hb
      have z1 : sl_ v (p + 56 + b) 7 (-2) 0 0 3 6 ≠ 0 := by rw [sl_o (by omega)]; exact hF
      obtain ⟨v2, a1, g2, q2, z2⟩ := tellWay_F (k := 0) e g1 z1 hb (by decide)
      rw [if_pos c2, bd_s, if_neg n10_]
      try dsimp only
      rw [take_F hF, bd_s]
      try dsimp only
      rw [ck_t (by rw [p3]; exact hp), ck_t (by omega), p3, show p + 3 + (53 + 1 * b) = p + 56 + b by omega, tel_e, bd_s]
      try dsimp only
      rw [a1, bd_s]
      try dsimp only
      rw [expect_F e g2 z2, bd_s]
      exact ⟨v2, rfl, g2, PE1_tr PE1_sl q2, z2⟩
    · rw [if_neg c2, bd_s, if_pos rfl]
      try dsimp only
      rw [sees_e e h]
      by_cases c3 : v0 6 (v 3 5) = 8
      · obtain ⟨r, r1, -⟩ := takeReg_F e h hF
        obtain ⟨a, a1⟩ := takeVal_F e h hF
        have g1 : J_ M p i v0 w0 (sl_ v (p + 56 + b) 8 (-2) (bX_ r (-1)) a) w := J_sl e h hb
        have z1 : sl_ v (p + 56 + b) 8 (-2) (bX_ r (-1)) a 3 6 ≠ 0 := by rw [sl_o (by omega)]; exact hF
        obtain ⟨v2, b1, g2, q2, z2⟩ := tellWay_F (k := 0) e g1 z1 hb (by decide)
        obtain ⟨v3, b2, g3, q3, z3⟩ := tellWay_F (k := 1) e g2 z2 hb (by decide)
        rw [if_pos c3, bd_s, if_neg n10_]
        try dsimp only
        rw [take_F hF, bd_s]
        try dsimp only
        rw [r1, bd_s]
        try dsimp only
        rw [expect_F e h hF, bd_s]
        try dsimp only
        rw [ck_t (by rw [p3]; exact hp), ck_t (by omega), a1, bd_s, p3, show p + 3 + (53 + 1 * b) = p + 56 + b by omega]
        try dsimp only
        rw [tel_e, bd_s]
        try dsimp only
        rw [expect_F e g1 z1, bd_s]
        try dsimp only
        rw [b1, bd_s]
        try dsimp only
        rw [expect_F e g2 z2, bd_s]
        try dsimp only
        rw [b2, bd_s]
        try dsimp only
        rw [expect_F e g3 z3, bd_s]
        exact ⟨v3, rfl, g3, PE1_tr PE1_sl (PE1_tr q2 q3), z3⟩
      · rw [if_neg c3, bd_s, if_pos rfl]
        try dsimp only
        rw [cfail_F hF, bd_s]
        try dsimp only
        rw [expect_F e h hF, bd_s]
        exact ⟨v, rfl, h, PE1_r, hF⟩
theorem hf_e (hi : i = 0 ∨ i = 1) (hb : 0 ≤ b ∧ b < 8) (hx : x = 8 * i + b) {a : Int} (ha : 832 ≤ a ∧ a ≤ 834) : hf_ i a x := by
  unfold hf_
  omega
theorem hf_w (hi : i = 0 ∨ i = 1) (hb : 0 ≤ b ∧ b < 8) (hx : x = 8 * i + b) (hk : 0 ≤ k ∧ k < 2) : hf_ i 835 (2 * x + k) := by
  unfold hf_
  omega
/-- the reference's if behind a fault -/
theorem if_F (e : EV_ M p i v0 w0) (h : J_ M p i v0 w0 v w) (hF : v 3 6 ≠ 0) (hb : 0 ≤ b ∧ b < 8) (hx : x = 8 * i + b) : ∃ w', (ck_ (0 ≤ x ∧ x < 16) (
      lt_ (up_ w (814 + 18) x 1) fun v20 =>
      bd_ (fX12_registerTold 814 v20) fun q22 =>
      ck_ (0 ≤ x ∧ x < 16) (
      lt_ (up_ q22.2 (814 + 19) x q22.1) fun v24 =>
      bd_ (fX12_must 814 13 v24) fun q25 =>
      bd_ (fX12_valueTold 814 q25.2) fun q27 =>
      ck_ (0 ≤ x ∧ x < 16) (
      lt_ (up_ q27.2 (814 + 20) x q27.1) fun v29 =>
      bd_ (fX12_must 814 27 v29) fun q30 =>
      bd_ (fX12_wayTold 814 (wr_ (2 * x)) q30.2) fun q31 =>
      bd_ (fX12_must 814 29 q31.2) fun q32 =>
      bd_ (fX12_wayTold 814 (wr_ ((wr_ (2 * x)) + 1)) q32.2) fun q33 =>
      bd_ (fX12_must 814 4 q33.2) fun q34 =>
      some ((0 : Int), q34.2))))) = some (0, w') ∧ J_ M p i v0 w0 v w' ∧ PE2_ x w w' := by
  have hi := e.2.2.1
  have hx2 : 0 ≤ x ∧ x < 16 := by omega
  have HF : ∀ a, 832 ≤ a ∧ a ≤ 834 → hf_ i a x := fun a ha => hf_e hi hb hx ha
  have h1 : J_ M p i v0 w0 v (up_ w 832 x 1) := J_rw e h (Or.inl (HF _ (by decide)))
  have h2 : J_ M p i v0 w0 v (up_ (up_ w 832 x 1) 833 x 0) := J_rw e h1 (Or.inl (HF _ (by decide)))
  have h3 : J_ M p i v0 w0 v (up_ (up_ (up_ w 832 x 1) 833 x 0) 834 x 0) := J_rw e h2 (Or.inl (HF _ (by decide)))
  obtain ⟨w4, r4, h4, q4⟩ := wayTold_F (k := 0) e h3 hF hb (by decide) hx
  obtain ⟨w5, r5, h5, q5⟩ := wayTold_F (k := 1) e h4 hF hb (by decide) hx
  have k2 := JF_ h2
  have k3 := JF_ h3
  have k4 := JF_ h4
  have k5 := JF_ h5
  rw [Int.add_zero] at r4
  refine ⟨w5, ?_, h5, PE2_tr (PE2_up (by decide)) (PE2_tr (PE2_up (by decide)) (PE2_tr (PE2_up (by decide)) (PE2_tr q4 q5)))⟩
  rw [ck_t hx2, lt_d, show (814 : Int) + 18 = 832 from rfl, regTold_F e h1 hF, bd_s, ck_t hx2, lt_d, show (814 : Int) + 19 = 833 from rfl]
  try dsimp only
  rw [must_F (by omega), bd_s]
  try dsimp only
  rw [valTold_F e h2 hF, bd_s, ck_t hx2, lt_d, show (814 : Int) + 20 = 834 from rfl]
  try dsimp only
  rw [must_F (by omega), bd_s, wr_id (x := 2 * x) (by omega), wr_id (x := 2 * x + 1) (by omega)]
  try dsimp only
  rw [r4, bd_s]
  try dsimp only
  rw [must_F (by omega), bd_s]
  try dsimp only
  rw [r5, bd_s]
  try dsimp only
  rw [must_F (by omega), bd_s]
end PEND
