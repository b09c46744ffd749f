/-! layer 2: a block told, in both: all -/
def BF1_ (p n : Int) (v v' : V_) : Prop := ∀ a k, ¬ (a = 3 ∧ 5 ≤ k ∧ k ≤ 9) → ¬ (a = p ∧ k = 0) → ¬ (a = p + 1 ∧ k = n) → ¬ (p + 8 + 6 * n ≤ a ∧ a < p + 8 + 6 * n + 6) → a ≠ p + 56 + n → ¬ (a = p + 4 ∧ (k = 2 * n ∨ k = 2 * n + 1)) → ¬ (a = 9 ∧ k = n) → ¬ (10 ≤ a ∧ a ≤ 11 ∧ (k = 2 * n ∨ k = 2 * n + 1)) → v' a k = v a k
def BF2_ (i n x : Int) (w w' : V_) : Prop := ∀ a k, ¬ (a = 814 ∧ (k = 11 ∨ (13 ≤ k ∧ k ≤ 16) ∨ k = 20)) → ¬ ((a = 826 ∨ (832 ≤ a ∧ a ≤ 834)) ∧ k = x) → ¬ (827 ≤ a ∧ a ≤ 831 ∧ 6 * x ≤ k ∧ k < 6 * x + 6) → ¬ (835 ≤ a ∧ a ≤ 836 ∧ (k = 2 * x ∨ k = 2 * x + 1)) → ¬ (a = 823 ∧ k = i) → ¬ (a = 822 ∧ k = n) → w' a k = w a k
def BO_ (M p i n x : Int) (v0 w0 v w v' w' : V_) : Prop := J_ M p i v0 w0 v' w' ∧ BF1_ p n v v' ∧ BF2_ i n x w w' ∧ (v' 3 6 = 0 → v 3 5 < v' 3 5 ∧ n < 8 ∧ v' p 0 = n + 1 ∧ w' 823 i = n + 1 ∧ w' 814 20 = n + 1 ∧ BR_ M p n x v0 w0 v' w' ∧ NM_ (v' 9 n) (w' 822 n) ∧ (v' (p + 4) (2 * n) = -2 ∧ v' (p + 4) (2 * n + 1) = -2) ∧ (v' 3 8 = 0 → v 3 8 = 0))
section BLK2
variable {M p i : Int} {v0 w0 v w v' w' : V_} {s t b c x j n T : Int}
theorem BF1_tr {u : V_} (h : BF1_ p n u v) (h2 : BF1_ p n v w) : BF1_ p n u w := fun a k q q2 q3 q4 q5 q6 q7 q8 => (h2 a k q q2 q3 q4 q5 q6 q7 q8).trans (h a k q q2 q3 q4 q5 q6 q7 q8)
theorem BF2_tr {u : V_} (h : BF2_ i n x u v) (h2 : BF2_ i n x v w) : BF2_ i n x u w := fun a k q q2 q3 q4 q5 q6 => (h2 a k q q2 q3 q4 q5 q6).trans (h a k q q2 q3 q4 q5 q6)
theorem BF1_c (h : Ec_ v v') : BF1_ p n v v' := fun a k q _ _ _ _ _ _ _ => h a k (by omega)
theorem BF2_c (h : Er_ w w') : BF2_ i n x w w' := fun a k q _ _ _ _ _ => h a k (by omega)
theorem BF1_q (h : Eq1_ v v') : BF1_ p n v v' := fun a k q _ _ _ _ _ _ _ => h a k q
theorem BF2_q (h : Eq2_ w w') : BF2_ i n x w w' := fun a k q _ _ _ _ _ => h a k (by omega)
theorem BF1_b (h : PB1_ p n v v') : BF1_ p n v v' := fun a k q q2 q3 q4 q5 q6 q7 q8 => h a k (by omega) q3 q4 q5 q8
theorem BF2_b (h : PB2_ i x w w') : BF2_ i n x w w' := fun a k q q2 q3 q4 q5 q6 => h a k (by omega) q2 q3 q4 q5
theorem BF2_r : BF2_ i n x w w := fun _ _ _ _ _ _ _ _ => rfl
theorem BF1_ab : BF1_ p n v (ab_ v p n) := fun _ _ _ q2 q3 _ q5 q6 _ _ => ab_o q2 q3 q5 q6
theorem J_ab (e : EV_ M p i v0 w0) (h : J_ M p i v0 w0 v w) (hn : v p 0 = n ∧ 0 ≤ n ∧ n < 8) : J_ M p i v0 w0 (ab_ v p n) w := by
  have hp := e.2.1
  have I := ab_i (v := v) (p := p) (n := n) hn.2
  have g := h.2.2.1
  refine J_wr e h (fun a k q q2 => ab_o (by omega) (by omega) (by omega) (by omega)) (fun _ _ _ _ _ _ => rfl) ⟨by rw [I.1]; omega, fun b b0 b1 => ?_⟩
  rw [I.1] at b1
  by_cases c : b = n
  · rw [c, I.2.1]; omega
  · rw [ab_o (by omega) (by omega) (by omega) (by omega)]
    exact g.2 b b0 (by omega)
theorem tellName_F (e : EV_ M p i v0 w0) (h : J_ M p i v0 w0 v w) (hF : v 3 6 ≠ 0) (hb : 0 ≤ b ∧ b < 8) : fX3_tellName 3 b v = some (0, up_ v 9 b (v0 8 (v 3 5))) ∧ J_ M p i v0 w0 (up_ v 9 b (v0 8 (v 3 5))) w := by
  have g1 : J_ M p i v0 w0 (up_ v 9 b (v0 8 (v 3 5))) w := J_cw e h fun a k q _ => up_n (by omega)
  have z : up_ v 9 b (v0 8 (v 3 5)) 3 6 ≠ 0 := by rw [up_n (by omega)]; exact hF
  refine ⟨?_, g1⟩
  unfold fX3_tellName
  rw [show (3 : Int) + 1 = 4 from rfl, placeAt_e e h, bd_s]
  try dsimp only
  rw [valueAt_e e h, bd_s, ck_t hb, show (3 : Int) + 6 = 9 from rfl, lt_d]
  try dsimp only
  rw [expect_F e g1 z, bd_s, if_neg z]
/-- behind the word: the class adds a block, the reference tells it -/
theorem block_N (e : EV_ M p i v0 w0) (h : J_ M p i v0 w0 v w) (h0 : v 3 6 = 0) (hx : x = 8 * i + n) (hn : v p 0 = n ∧ 0 ≤ n ∧ n < 8) (hw : w 823 i = n) (hA : NA_ n v w) (hz : v 10 (2 * n) = 0 ∧ v 10 (2 * n + 1) = 0) : ∃ v' w', (ck_ (v 3 4 = PA_ ∨ v 3 4 = PB_) (
    bd_ (fX5_addBlock (v 3 4) v) fun q7 =>
    bd_ (fX3_tellName 3 q7.1 q7.2) fun q8 =>
    bd_ (fX3_expect 3 59 q8.2) fun q9 =>
    fX3_parseBlock_43 fu_ 3 q7.1 0 q9.2)) = some (0, v') ∧ fX12_tellBlock 814 w = some (0, w') ∧ J_ M p i v0 w0 v' w' ∧ BF1_ p n v v' ∧ BF2_ i n x w w' ∧ (v' 3 6 = 0 → v' p 0 = n + 1 ∧ w' 823 i = n + 1 ∧ w' 814 20 = n + 1 ∧ BR_ M p n x v0 w0 v' w' ∧ NM_ (v' 9 n) (w' 822 n) ∧ (v' (p + 4) (2 * n) = -2 ∧ v' (p + 4) (2 * n + 1) = -2) ∧ (v' 3 8 = 0 → v 3 8 = 0)) := by
  have hi := e.2.2.1
  have hp := e.2.1
  have m1 := e.1.1
  obtain ⟨-, -, t3, p3, i3⟩ := J_tok e h
  have I := ab_i (v := v) (p := p) (n := n) hn.2
  have g1 := J_ab e h hn
  have O : ∀ a k, a < 12 → ab_ v p n a k = v a k := fun a k q => ab_o (by omega) (by omega) (by omega) (by omega)
  have hx2 : 0 ≤ x ∧ x < 16 := by omega
  obtain ⟨v3, w3, a3, r3, h3, q5, q6, z3⟩ := name_J (b := n) e g1 hn.2 hx (fun _ => ⟨hA.1, fun k k0 k1 => by rw [O _ _ (by decide)]; exact hA.2 k k0 k1⟩)
  obtain ⟨v4, w4, a4, r4, h4, q7, q8, z4⟩ := expect_J e h3 (s := 59) (t := 4) (by unfold TkS_; omega) (by decide)
  have k4 := JF_ h4
  have e35 : ab_ v p n 3 5 = v 3 5 := O _ _ (by decide)
  have h5 : w 814 11 = v 3 5 := h.2.2.2.2.1
  have h45 := h.2.2.2.1
  rw [e35] at r3 z3
  have R : fX12_tellBlock 814 w = fX12_tellBlock_73 814 x (v 3 5) w3 := by
    unfold fX12_tellBlock
    rw [ck_t (by omega), show (814 : Int) + 9 = 823 from rfl, i3, hw, wr_id (x := 8 * i) (by omega), wr_id (by omega), lt_d, lt_d, h5, ← hx]
    exact r3
  rw [ck_t (by rw [p3]; exact hp), p3, addBlock_e hp hn, bd_s, R, fX12_tellBlock_73, r4, bd_s]
  try dsimp only
  rw [a3, bd_s]
  try dsimp only
  rw [a4, bd_s]
  try dsimp only
  have Q5 : BF1_ p n (ab_ v p n) v3 := fun a k g g2 g3 g4 g5' g6 g7 g8 => q5 a k g g7
  have Q1 : BF1_ p n v v4 := BF1_tr BF1_ab (BF1_tr Q5 (BF1_c q7))
  have Q2 : BF2_ i n x w w4 := BF2_tr (BF2_q q6) (BF2_c q8)
  by_cases y : v4 3 6 = 0
  · obtain ⟨y3, -, -⟩ := z4 y
    obtain ⟨-, y17, y9, y8, -⟩ := z3 y3
    have e20 : w4 814 20 = n := by rw [q8 _ _ (by omega), q6 _ _ (by omega)]; exact hA.1
    have e820 : w4 820 (v 3 5) = w0 820 (v 3 5) := by rw [q8 _ _ (by omega), q6 _ _ (by omega), t3 820 _ (by decide) (by decide)]
    have tok := (e.1.2.2.1 _ h45.1 h45.2).1.2.2 y17
    rw [if_pos (show w4 814 13 ≤ 0 by omega), ck_t (by omega), ck_t (by omega), show (814 : Int) + 8 = 822 from rfl, show (814 : Int) + 6 = 820 from rfl, show (814 : Int) + 12 = 826 from rfl, e20, e820, lt_d, up_n (by omega), e20, wr_id (x := n + 1) (by omega), lt_d, ck_t hx2, lt_d]
    have F5 : ∀ a k, ¬ (a = 822 ∧ k = n) → ¬ (a = 814 ∧ k = 20) → ¬ (a = 826 ∧ k = x) → up_ (up_ (up_ w4 822 n (w0 820 (v 3 5))) 814 20 (n + 1)) 826 x 0 a k = w4 a k := fun a k g g2 g3 => by rw [up_n g3, up_n g2, up_n g]
    have E22 : up_ (up_ (up_ w4 822 n (w0 820 (v 3 5))) 814 20 (n + 1)) 826 x 0 822 n = w0 820 (v 3 5) := by rw [up_n (by omega), up_n (by omega), up_s ⟨rfl, rfl⟩]
    have E20 : up_ (up_ (up_ w4 822 n (w0 820 (v 3 5))) 814 20 (n + 1)) 826 x 0 814 20 = n + 1 := by rw [up_n (by omega), up_s ⟨rfl, rfl⟩]
    have E26 : up_ (up_ (up_ w4 822 n (w0 820 (v 3 5))) 814 20 (n + 1)) 826 x 0 826 x = 0 := up_s ⟨rfl, rfl⟩
    generalize up_ (up_ (up_ w4 822 n (w0 820 (v 3 5))) 814 20 (n + 1)) 826 x 0 = w5 at F5 E22 E20 E26 ⊢
    have h26 : hf_ i 826 x := Or.inr (Or.inr (Or.inl ⟨Or.inl rfl, by omega, by omega⟩))
    have g5 : J_ M p i v0 w0 v4 w5 := J_wr e h4 (fun _ _ _ _ => rfl) (fun a k g g2 g3 g4 => F5 a k (fun q => g q.1) g4 (fun q => g3 (by rw [q.1, q.2]; exact h26))) h4.2.2.1
    have V4 : ∀ a k, ¬ (a = 3) → ¬ (a = 9) → v4 a k = ab_ v p n a k := fun a k g g2 => (q7 a k (by omega)).trans (q5 a k (by omega) (by omega))
    have W4 : ∀ a k, a ≠ 814 → w4 a k = w a k := fun a k g => (q8 a k (by omega)).trans (q6 a k (by omega))
    obtain ⟨v6, w6, a6, r6, h6, s1, s2, z6⟩ := loop_J (b := n) (x := x) e hn.2 hx 6 fu_ fu_ 0 v4 w5 (by decide) (by decide) (by decide) (by decide) g5 (by rw [V4 _ _ (by omega) (by omega)]; exact I.2.1) E26 (by
      unfold SE_
      rw [V4 _ _ (by omega) (by omega), V4 _ _ (by omega) (by omega), V4 _ _ (by omega) (by omega), V4 _ _ (by omega) (by omega)]
      exact I.2.2.1) (by rw [V4 _ _ (by omega) (by omega), V4 _ _ (by omega) (by omega), O _ _ (by omega), O _ _ (by omega)]; exact hz) (fun _ j j0 j1 => by omega) (by rw [F5 _ _ (by omega) (by omega) (by omega), W4 _ _ (by decide), hw]; omega)
    rw [a6, r6]
    refine ⟨v6, w6, rfl, rfl, h6, BF1_tr Q1 (BF1_b s1), BF2_tr Q2 (BF2_tr (fun a k g g2 g3 g4 g5 g6 => F5 a k g6 (by omega) (by omega)) (BF2_b s2)), fun g => ?_⟩
    obtain ⟨B1, B2⟩ := z6 g
    refine ⟨?_, ?_, ?_, B1, ?_, ⟨?_, ?_⟩, fun g8 => ?_⟩
    · rw [s1 _ _ (by omega) (by omega) (by omega) (by omega) (by omega), V4 _ _ (by omega) (by omega)]; exact I.1
    · rw [B2, F5 _ _ (by omega) (by omega) (by omega), W4 _ _ (by decide), hw]
    · rw [s2 _ _ (by omega) (by omega) (by omega) (by omega) (by omega)]; exact E20
    · rw [s1 _ _ (by omega) (by omega) (by omega) (by omega) (by omega), q7 _ _ (by omega), y9, s2 _ _ (by omega) (by omega) (by omega) (by omega) (by omega), E22]
      exact tok
    · rw [s1 _ _ (by omega) (by omega) (by omega) (by omega) (by omega), V4 _ _ (by omega) (by omega)]; exact I.2.2.2.1
    · rw [s1 _ _ (by omega) (by omega) (by omega) (by omega) (by omega), V4 _ _ (by omega) (by omega)]; exact I.2.2.2.2
    · rw [s1 _ _ (by omega) (by omega) (by omega) (by omega) (by omega), q7 _ _ (by omega)] at g8
      have := y8 g8
      rw [O _ _ (by decide)] at this
      exact this
  · obtain ⟨v5, a5, h5', q9, z5⟩ := loop_F (b := n) (n := 0) 99999 e h4 y hn.2
    rw [if_neg (show ¬ w4 814 13 ≤ 0 by omega), show fu_ = 99999 + 1 from rfl, a5]
    exact ⟨v5, w4, rfl, rfl, h5', BF1_tr Q1 (BF1_b q9), Q2, fun g => absurd g z5⟩
theorem block_J (e : EV_ M p i v0 w0) (h : J_ M p i v0 w0 v w) (h0 : v 3 6 = 0) (hs : v0 6 (v 3 5) = 1) (hx : x = 8 * i + n) (hn : v p 0 = n ∧ 0 ≤ n ∧ n ≤ 8) (hw : w 823 i = n) (hA : NA_ n v w) (hz : n < 8 → v 10 (2 * n) = 0 ∧ v 10 (2 * n + 1) = 0) : ∃ v' w', fX3_parseBlock 3 v = some (0, v') ∧ fX12_tellOne_32 814 w = some (0, w') ∧ BO_ M p i n x v0 w0 v w v' w' := by
  have hi := e.2.2.1
  have hp := e.2.1
  have k := JF_ h
  obtain ⟨-, -, t3, p3, i3⟩ := J_tok e h
  unfold fX3_parseBlock fX12_tellOne_32
  rw [ck_t (by rw [p3]; exact hp), p3, hn.1, if_pos (show w 814 13 ≤ 0 by omega), ck_t (by omega), show (814 : Int) + 9 = 823 from rfl, i3, hw, fX12_roomFor]
  by_cases c8 : n = 8
  · obtain ⟨v1, w1, a1, r1, h1, q1, q2, z1⟩ := fail_J e h (c := 2) (by decide)
    have k1 := JF_ h1
    rw [if_neg (by omega), if_pos c8, r1, bd_s, fX12_roomFor_10, if_neg (show ¬ w1 814 13 = 0 by omega), bd_s, if_neg (show ¬ w1 814 13 = 0 by omega), a1, bd_s]
    exact ⟨v1, w1, rfl, rfl, h1, BF1_c q1, BF2_c q2, fun g => absurd g z1⟩
  · obtain ⟨v1, w1, a1, r1, h1, q1, q2, z1⟩ := take_N e h h0 (by omega)
    have k1 := JF_ h1
    have p1 := (J_tok e h1).2.2.2.1
    rw [if_pos (by omega), if_neg c8, fX12_roomFor_10, if_pos (show w 814 13 = 0 by omega), r1, bd_s, bd_s, a1, bd_s]
    try dsimp only
    have hn1 : v1 p 0 = n ∧ 0 ≤ n ∧ n < 8 := ⟨by rw [q1 _ _ (by omega)]; exact hn.1, by omega, by omega⟩
    by_cases y : v1 3 6 = 0
    · have y5 := z1 y
      have lo : v0 3 5 ≤ v1 3 5 := h1.2.2.2.2.2.2.2.2.2
      have e' : EV_ M p i (up_ v0 3 5 (v1 3 5)) w0 := EV_rb e
      have h1' := J_rb (lo := v1 3 5) h1 (Int.le_refl _)
      obtain ⟨v', w', o1, o2, o3, o4, o5, o6⟩ := block_N e' h1' y hx hn1 (by rw [q2 _ _ (by omega)]; exact hw) ⟨by rw [q2 _ _ (by omega)]; exact hA.1, fun k k0 k1 => by rw [q1 _ _ (by omega), q2 _ _ (by omega)]; exact hA.2 k k0 k1⟩ (by rw [q1 _ _ (by omega), q1 _ _ (by omega)]; exact hz (by omega))
      obtain ⟨G3, G4⟩ := J_br o3 lo
      rw [o1, if_pos (show w1 814 13 = 0 by omega), o2, bd_s]
      refine ⟨v', w', rfl, rfl, G3, BF1_tr (BF1_c q1) o4, BF2_tr (BF2_c q2) o5, fun g => ?_⟩
      obtain ⟨f1, f2, f3, f4, f5, f6, f7⟩ := o6 g
      refine ⟨by omega, by omega, f1, f2, f3, ?_, f5, f6, fun g8 => ?_⟩
      · obtain ⟨b1, b2, b3, b4⟩ := f4
        refine ⟨b1, b2, b3, ?_⟩
        unfold EB_ WY_ at b4 ⊢
        simp only [show ∀ T, up_ v0 3 5 (v1 3 5) 6 T = v0 6 T from fun T => up_n (by omega), show ∀ T, up_ v0 3 5 (v1 3 5) 8 T = v0 8 T from fun T => up_n (by omega)] at b4
        exact b4
      · rw [← q1 3 8 (by omega)]; exact f7 g8
    · have g1 := J_ab e h1 hn1
      have zz : ab_ v1 p n 3 6 ≠ 0 := by rw [ab_o (by omega) (by omega) (by omega) (by omega)]; exact y
      obtain ⟨a3, g3⟩ := tellName_F e g1 zz hn1.2
      have zz3 : up_ (ab_ v1 p n) 9 n (v0 8 (ab_ v1 p n 3 5)) 3 6 ≠ 0 := by rw [up_n (by omega)]; exact zz
      obtain ⟨v5, a5, h5', q9, z5⟩ := loop_F (b := n) (n := 0) 99999 e g3 zz3 hn1.2
      rw [ck_t (by rw [p1]; exact hp), p1, addBlock_e hp hn1, bd_s]
      try dsimp only
      rw [a3, bd_s]
      try dsimp only
      rw [expect_F e g3 zz3, bd_s, if_neg (show ¬ w1 814 13 = 0 by omega)]
      try dsimp only
      rw [show fu_ = 99999 + 1 from rfl, a5]
      refine ⟨v5, w1, rfl, rfl, h5', BF1_tr (BF1_c q1) (BF1_tr BF1_ab (BF1_tr (fun a k _ _ _ _ _ _ g7 _ => up_n g7) (BF1_b q9))), BF2_c q2, fun g => absurd g z5⟩
end BLK2
