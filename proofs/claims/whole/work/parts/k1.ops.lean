/-! layer 2: a line told, in both -/
def sl_ (v : V_) (y o r a b : Int) : V_ := up_ (up_ (up_ (up_ v y 0 o) y 1 r) y 2 a) y 3 b
theorem tel_e {v : V_} {y o r a b : Int} : fX8_tell y o r a b v = some (0, sl_ v y o r a b) := rfl
theorem sl_o {v : V_} {y o r a b h k : Int} (q : h ≠ y) : sl_ v y o r a b h k = v h k := by
  unfold sl_
  rw [up_n (by omega), up_n (by omega), up_n (by omega), up_n (by omega)]
theorem sl_i {v : V_} {y o r a b : Int} : sl_ v y o r a b y 0 = o ∧ sl_ v y o r a b y 1 = r ∧ sl_ v y o r a b y 2 = a ∧ sl_ v y o r a b y 3 = b := by
  unfold sl_
  refine ⟨?_, ?_, ?_, up_s ⟨rfl, rfl⟩⟩
  · rw [up_n (by omega), up_n (by omega), up_n (by omega), up_s ⟨rfl, rfl⟩]
  · rw [up_n (by omega), up_n (by omega), up_s ⟨rfl, rfl⟩]
  · rw [up_n (by omega), up_s ⟨rfl, rfl⟩]
/-- a line put into the class's program -/
def al_ (v : V_) (p b j o r a c : Int) : V_ := up_ (sl_ v (p + 8 + (6 * b + j)) o r a c) (p + 1) b (j + 1)
theorem addLine_e {v : V_} {p b j o r a c : Int} (hp : p = 12 ∨ p = 76) (hb : 0 ≤ b ∧ b < 8) (hj : v (p + 1) b = j ∧ 0 ≤ j ∧ j < 6) : fX5_addLine p b o r a c v = some (0, al_ v p b j o r a c) := by
  unfold fX5_addLine
  rw [hj.1, ck_t (by omega), if_neg (by omega), ck_t (by omega), wr_id (x := b * 6) (by omega), wr_id (x := b * 6 + j) (by omega), ck_t (by omega), tel_e, bd_s, show p + 2 + (6 + 1 * (b * 6 + j)) = p + 8 + (6 * b + j) by omega]
  try dsimp only
  rw [ck_t (by omega), ck_t (by omega), sl_o (by omega), hj.1, wr_id (by omega), lt_d]
  rfl
theorem al_o {v : V_} {p b j o r a c h k : Int} (q : ¬ (h = p + 1 ∧ k = b)) (q2 : h ≠ p + 8 + (6 * b + j)) : al_ v p b j o r a c h k = v h k := by
  unfold al_
  rw [up_n q, sl_o q2]
theorem al_1 {v : V_} {p b j o r a c : Int} : al_ v p b j o r a c (p + 1) b = j + 1 := up_s ⟨rfl, rfl⟩
theorem al_i {v : V_} {p b j o r a c : Int} (hb : 0 ≤ b) (hj : 0 ≤ j) (k : Int) : al_ v p b j o r a c (p + 8 + (6 * b + j)) k = sl_ v (p + 8 + (6 * b + j)) o r a c (p + 8 + (6 * b + j)) k := up_n (by omega)
section PLINE
variable {M p i : Int} {v0 w0 v w v' w' : V_} {s t b c x j : Int}
theorem J_wr (e : EV_ M p i v0 w0) (h : J_ M p i v0 w0 v w) (f1 : ∀ a k, ¬ (9 ≤ a ∧ a ≤ 11) → ¬ (p ≤ a ∧ a < p + 64) → v' a k = v a k) (f2 : ∀ a k, a ≠ 822 → a ≠ 836 → ¬ hf_ i a k → ¬ (a = 814 ∧ k = 20) → w' a k = w a k) (hg : GD_ p v') : J_ M p i v0 w0 v' w' := by
  obtain ⟨-, hp, -⟩ := e
  obtain ⟨g1, g2, -, h4, h5, h6, h7, h8, h9⟩ := h
  have c3 : ∀ k, v' 3 k = v 3 k := fun k => f1 _ _ (by omega) (by omega)
  have c14 : ∀ k, k ≠ 20 → w' 814 k = w 814 k := fun k q => f2 _ _ (by omega) (by omega) (by unfold hf_; omega) (by omega)
  unfold J_ LT_
  rw [c3, c3, c3, c3, c14 _ (by decide), c14 _ (by decide), c14 _ (by decide), c14 _ (by decide), c14 _ (by decide)]
  refine ⟨fun a k q q2 q3 => (f1 a k q2 q3).trans (g1 a k q q2 q3), fun a k q q2 q3 q4 => (f2 a k q2 q3 q4 (by omega)).trans (g2 a k q q2 q3 q4), hg, h4, h5, h6, h7, h8, h9⟩
theorem GD_p (hp : p = 12 ∨ p = 76) (h : GD_ p v) (f1 : v' p 0 = v p 0) (f2 : ∀ k, 0 ≤ k → k < v p 0 → v' (p + 1) k = v (p + 1) k) : GD_ p v' := by
  obtain ⟨a, b⟩ := h
  refine ⟨by rw [f1]; exact a, fun k k0 k1 => ?_⟩
  rw [f1] at k1
  rw [f2 k k0 k1]
  exact b k k0 k1
theorem GD_al {o r a d : Int} (hp : p = 12 ∨ p = 76) (h : GD_ p v) (hb : 0 ≤ b) (hj : 0 ≤ j ∧ j < 6) : GD_ p (al_ v p b j o r a d) := by
  obtain ⟨q, q2⟩ := h
  have e0 : al_ v p b j o r a d p 0 = v p 0 := al_o (by omega) (by omega)
  refine ⟨by rw [e0]; exact q, fun k k0 k1 => ?_⟩
  rw [e0] at k1
  by_cases c : k = b
  · rw [c, al_1]; omega
  · rw [al_o (by omega) (by omega)]
    exact q2 k k0 k1
theorem takeOp_F (e : EV_ M p i v0 w0) (h : J_ M p i v0 w0 v w) (hF : v 3 6 ≠ 0) : ∃ r, fX3_takeOp 3 v = some (r, v) := by
  unfold fX3_takeOp
  rw [show (3 : Int) + 1 = 4 from rfl, sortAt_e e h, bd_s]
  try dsimp only
  rw [take_F hF, cfail_F hF]
  simp only [bd_s]
  by_cases c1 : v0 6 (v 3 5) = 42
  · exact ⟨2, if_pos c1⟩
  · rw [if_neg c1]
    by_cases c2 : v0 6 (v 3 5) = 43
    · exact ⟨0, if_pos c2⟩
    · rw [if_neg c2]
      by_cases c3 : v0 6 (v 3 5) = 45
      · exact ⟨1, if_pos c3⟩
      · rw [if_neg c3]
        by_cases c4 : v0 6 (v 3 5) = 47
        · exact ⟨3, if_pos c4⟩
        · exact ⟨0, if_neg c4⟩
theorem JF_ (h : J_ M p i v0 w0 v w) : v 3 6 = w 814 13 ∧ 0 ≤ w 814 13 := by
  obtain ⟨-, -, -, -, -, h6, h7, -⟩ := h
  exact ⟨h6, by omega⟩
theorem J_rw (e : EV_ M p i v0 w0) (h : J_ M p i v0 w0 v w) {a k y : Int} (hh : hf_ i a k ∨ a = 822 ∨ a = 836) : J_ M p i v0 w0 v (up_ w a k y) := by
  refine J_wr e h (fun _ _ _ _ => rfl) (fun a' k' q q2 q3 _ => up_n fun q4 => ?_) h.2.2.1
  rcases hh with hh | hh | hh
  · rw [q4.1, q4.2] at q3; exact q3 hh
  · omega
  · omega
theorem hf_l (hi : i = 0 ∨ i = 1) (hb : 0 ≤ b ∧ b < 8) (hj : 0 ≤ j ∧ j < 6) (hx : x = 6 * (8 * i + b) + j) {a : Int} (ha : 827 ≤ a ∧ a ≤ 831) : hf_ i a x := by
  unfold hf_
  omega
/-- which op is told -/
theorem takeOp_J (e : EV_ M p i v0 w0) (h : J_ M p i v0 w0 v w) (hb : 0 ≤ b ∧ b < 8) (hj : 0 ≤ j ∧ j < 6) (hx : x = 6 * (8 * i + b) + j) (w28 : w 828 x = 0) : ∃ r v' w', fX3_takeOp 3 v = some (r, v') ∧ (bd_ (fX12_is 814 8 w) fun q20 =>
      if q20.1 = 0 then (
        bd_ (fX12_is 814 9 q20.2) fun q22 =>
        if q22.1 = 0 then (
          bd_ (fX12_is 814 10 q22.2) fun q24 =>
          if q24.1 = 0 then (
            bd_ (fX12_is 814 15 q24.2) fun q26 =>
            if q26.1 = 0 then (
              bd_ (fX12_fail 814 1 q26.2) fun q28 =>
              fX12_tellLine_223 814 x q28.2)
            else (
              ck_ (0 ≤ x ∧ x < 96) (
              lt_ (up_ q26.2 (814 + 14) x 3) fun v38 =>
              fX12_tellLine_223 814 x v38)))
          else (
            ck_ (0 ≤ x ∧ x < 96) (
            lt_ (up_ q24.2 (814 + 14) x 2) fun v41 =>
            fX12_tellLine_223 814 x v41)))
        else (
          ck_ (0 ≤ x ∧ x < 96) (
          lt_ (up_ q22.2 (814 + 14) x 1) fun v44 =>
          fX12_tellLine_223 814 x v44)))
      else (
        ck_ (0 ≤ x ∧ x < 96) (
        lt_ (up_ q20.2 (814 + 14) x 0) fun v47 =>
        fX12_tellLine_223 814 x v47))) = fX12_tellLine_234 814 x w' ∧ J_ M p i v0 w0 v' w' ∧ Ec_ v v' ∧ (∀ a k, ¬ (a = 814 ∧ (k = 11 ∨ k = 13 ∨ k = 14)) → ¬ (a = 828 ∧ k = x) → w' a k = w a k) ∧ (v' 3 6 = 0 → v 3 6 = 0 ∧ (0 ≤ r ∧ r ≤ 3) ∧ w' 828 x = r) := by
  have hi := e.2.2.1
  have hx2 : 0 ≤ x ∧ x < 96 := by omega
  have hJF := JF_ h
  by_cases z : v 3 6 = 0
  · have hit : ∀ o, 0 ≤ o → o ≤ 3 → v0 6 (v 3 5) ≠ 19 ∧ v0 6 (v 3 5) ≠ 20 → ∃ v' w', fX3_take 3 v = some (0, v') ∧ fX12_tellLine_223 814 x (up_ w 828 x o) = fX12_tellLine_234 814 x w' ∧ J_ M p i v0 w0 v' w' ∧ Ec_ v v' ∧ (∀ a k, ¬ (a = 814 ∧ (k = 11 ∨ k = 13 ∨ k = 14)) → ¬ (a = 828 ∧ k = x) → w' a k = w a k) ∧ (v' 3 6 = 0 → v 3 6 = 0 ∧ (0 ≤ o ∧ o ≤ 3) ∧ w' 828 x = o) := fun o o0 o1 hs => by
      have h1 : J_ M p i v0 w0 v (up_ w 828 x o) := J_rw e h (Or.inl (hf_l hi hb hj hx (by decide)))
      obtain ⟨v', w', a1, a2, a3, a4, a5, a6⟩ := take_N e h1 z hs
      refine ⟨v', w', a1, ?_, a3, a4, fun a k q q2 => (a5 a k q).trans (up_n q2), fun _ => ⟨z, ⟨o0, o1⟩, ?_⟩⟩
      · rw [fX12_tellLine_223, if_pos (show up_ w 828 x o 814 13 = 0 by rw [up_n (by omega)]; omega), a2, bd_s]
      · rw [a5 _ _ (by omega), up_s ⟨rfl, rfl⟩]
    unfold fX3_takeOp
    rw [show (3 : Int) + 1 = 4 from rfl, sortAt_e e h, bd_s, is_s e h z (s := 43) (by unfold TkS_; omega)]
    try dsimp only [Int.reduceAdd]
    by_cases c1 : v0 6 (v 3 5) = 42
    · obtain ⟨v', w', b1, b2, b3, b4, b5, b6⟩ := hit 2 (by decide) (by decide) (by omega)
      rw [if_pos c1, if_neg (by omega), bd_s, if_pos rfl, b1, bd_s]
      try dsimp only
      rw [is_s e h z (s := 45) (by unfold TkS_; omega), if_neg (by omega), bd_s, if_pos rfl]
      try dsimp only
      rw [is_s e h z (s := 42) (by unfold TkS_; omega), if_pos c1, bd_s, if_neg n10_, ck_t hx2, lt_d]
      exact ⟨2, v', w', rfl, b2, b3, b4, b5, b6⟩
    · rw [if_neg c1]
      by_cases c2 : v0 6 (v 3 5) = 43
      · obtain ⟨v', w', b1, b2, b3, b4, b5, b6⟩ := hit 0 (by decide) (by decide) (by omega)
        rw [if_pos c2, if_pos c2, bd_s, if_neg n10_, b1, bd_s]
        try dsimp only
        rw [ck_t hx2, lt_d]
        exact ⟨0, v', w', rfl, b2, b3, b4, b5, b6⟩
      · rw [if_neg c2, if_neg c2, bd_s, if_pos rfl]
        try dsimp only
        rw [is_s e h z (s := 45) (by unfold TkS_; omega)]
        by_cases c3 : v0 6 (v 3 5) = 45
        · obtain ⟨v', w', b1, b2, b3, b4, b5, b6⟩ := hit 1 (by decide) (by decide) (by omega)
          rw [if_pos c3, if_pos c3, bd_s, if_neg n10_, b1, bd_s]
          try dsimp only
          rw [ck_t hx2, lt_d]
          exact ⟨1, v', w', rfl, b2, b3, b4, b5, b6⟩
        · rw [if_neg c3, if_neg c3, bd_s, if_pos rfl]
          try dsimp only
          rw [is_s e h z (s := 42) (by unfold TkS_; omega), if_neg c1, bd_s, if_pos rfl]
          try dsimp only
          rw [is_s e h z (s := 47) (by unfold TkS_; omega)]
          by_cases c4 : v0 6 (v 3 5) = 47
          · obtain ⟨v', w', b1, b2, b3, b4, b5, b6⟩ := hit 3 (by decide) (by decide) (by omega)
            rw [if_pos c4, if_pos c4, bd_s, if_neg n10_, b1, bd_s]
            try dsimp only
            rw [ck_t hx2, lt_d]
            exact ⟨3, v', w', rfl, b2, b3, b4, b5, b6⟩
          · rw [if_neg c4, if_neg c4, bd_s, if_pos rfl]
            try dsimp only
            obtain ⟨v', w', a1, a2, a3, a4, a5, a6⟩ := fail_J e h (c := 1) (by decide)
            have k := JF_ a3
            rw [a1, a2, bd_s, bd_s, fX12_tellLine_223, if_neg (show ¬ w' 814 13 = 0 by omega)]
            exact ⟨0, v', w', rfl, rfl, a3, a4, fun a k q _ => a5 a k q, fun q => absurd q a6⟩
  · obtain ⟨r, r1⟩ := takeOp_F e h z
    have zw : w 814 13 ≠ 0 := by omega
    rw [r1, is_F zw, bd_s, if_pos rfl]
    try dsimp only
    rw [is_F zw, bd_s, if_pos rfl]
    try dsimp only
    rw [is_F zw, bd_s, if_pos rfl]
    try dsimp only
    rw [is_F zw, bd_s, if_pos rfl]
    try dsimp only
    rw [rfail_F (by omega), bd_s, fX12_tellLine_223, if_neg zw]
    exact ⟨r, v, w, rfl, rfl, h, Ec_r, fun _ _ _ _ => rfl, fun q => absurd q z⟩
end PLINE
