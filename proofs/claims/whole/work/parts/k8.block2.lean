/-! layer 2: a block told, in both: its lines and its end -/
def LR_ (p b x j : Int) (v w : V_) : Prop := SL_ v (p + 8 + (6 * b + j)) (w 827 (6 * x + j)) (w 828 (6 * x + j)) (w 829 (6 * x + j)) (w 830 (6 * x + j)) (w 831 (6 * x + j)) ∧ LN_ (w 827 (6 * x + j)) (w 828 (6 * x + j)) (w 829 (6 * x + j)) (w 830 (6 * x + j)) (w 831 (6 * x + j))
def PB1_ (p b : Int) (v v' : V_) : Prop := ∀ a k, ¬ (a = 3 ∧ (k = 5 ∨ k = 6)) → ¬ (a = p + 1 ∧ k = b) → ¬ (p + 8 + 6 * b ≤ a ∧ a < p + 8 + 6 * b + 6) → a ≠ p + 56 + b → ¬ (10 ≤ a ∧ a ≤ 11 ∧ (k = 2 * b ∨ k = 2 * b + 1)) → v' a k = v a k
def PB2_ (i x : Int) (w w' : V_) : Prop := ∀ a k, ¬ (a = 814 ∧ (k = 11 ∨ k = 13 ∨ k = 14)) → ¬ ((a = 826 ∨ (832 ≤ a ∧ a ≤ 834)) ∧ k = x) → ¬ (827 ≤ a ∧ a ≤ 831 ∧ 6 * x ≤ k ∧ k < 6 * x + 6) → ¬ (835 ≤ a ∧ a ≤ 836 ∧ (k = 2 * x ∨ k = 2 * x + 1)) → ¬ (a = 823 ∧ k = i) → w' a k = w a k
def BR_ (M p b x : Int) (v0 w0 v w : V_) : Prop := (0 ≤ w 826 x ∧ w 826 x ≤ 6) ∧ v (p + 1) b = w 826 x ∧ (∀ j, 0 ≤ j → j < w 826 x → LR_ p b x j v w) ∧ EB_ M p b x v0 w0 v w
section BLK
variable {M p i : Int} {v0 w0 v w v' w' : V_} {s t b c x j n : Int}
theorem PB1_tr {u : V_} (h : PB1_ p b u v) (h2 : PB1_ p b v w) : PB1_ p b u w := fun a k q q2 q3 q4 q5 => (h2 a k q q2 q3 q4 q5).trans (h a k q q2 q3 q4 q5)
theorem PB2_tr {u : V_} (h : PB2_ i x u v) (h2 : PB2_ i x v w) : PB2_ i x u w := fun a k q q2 q3 q4 q5 => (h2 a k q q2 q3 q4 q5).trans (h a k q q2 q3 q4 q5)
theorem PB1_l (h : PL1_ p b j v v') (hj : 0 ≤ j ∧ j < 6) : PB1_ p b v v' := fun a k q q2 q3 q4 q5 => h a k q q2 (by omega)
theorem PB2_l (h : PL2_ (6 * x + j) w w') (hj : 0 ≤ j ∧ j < 6) : PB2_ i x w w' := fun a k q q2 q3 q4 q5 => h a k q (by omega)
theorem PB1_n (h : PE1_ p b v v') : PB1_ p b v v' := fun a k q q2 q3 q4 q5 => h a k q q4 q5
theorem PB2_n (h : PE2_ x w w') : PB2_ i x w w' := fun a k q q2 q3 q4 q5 => h a k q (by omega) q4
theorem PB1_c (h : Ec_ v v') : PB1_ p b v v' := fun a k q _ _ _ _ => h a k q
theorem PB2_c (h : Er_ w w') : PB2_ i x w w' := fun a k q _ _ _ _ => h a k q
theorem PB1_r : PB1_ p b v v := fun _ _ _ _ _ _ _ => rfl
theorem PB2_r : PB2_ i x w w := fun _ _ _ _ _ _ _ => rfl
theorem LR_fr (h : LR_ p b x j v w) (f1 : ∀ k, v' (p + 8 + (6 * b + j)) k = v (p + 8 + (6 * b + j)) k) (f2 : ∀ a, 827 ≤ a → a ≤ 831 → w' a (6 * x + j) = w a (6 * x + j)) : LR_ p b x j v' w' := by
  unfold LR_ SL_
  rw [f1, f1, f1, f1, f2 827 (by decide) (by decide), f2 828 (by decide) (by decide), f2 829 (by decide) (by decide), f2 830 (by decide) (by decide), f2 831 (by decide) (by decide)]
  exact h
theorem seesLine_e (e : EV_ M p i v0 w0) (h : J_ M p i v0 w0 v w) : fX3_seesLine 3 v = if v 3 6 = 0 ∧ ((11 ≤ v0 6 (v 3 5) ∧ v0 6 (v 3 5) ≤ 16) ∨ v0 6 (v 3 5) = 6) then some (1, v) else some (0, v) := by
  unfold fX3_seesLine
  by_cases z : v 3 6 = 0
  · rw [if_pos z, seesReg_e e h]
    by_cases c : 11 ≤ v0 6 (v 3 5) ∧ v0 6 (v 3 5) ≤ 16
    · rw [if_pos c, bd_s, if_neg n10_, if_pos ⟨z, Or.inl c⟩]
    · rw [if_neg c, bd_s, if_pos rfl, sees_e e h]
      by_cases d : v0 6 (v 3 5) = 6
      · rw [if_pos d, bd_s, if_neg n10_, if_pos ⟨z, Or.inr d⟩]
      · rw [if_neg d, bd_s, if_pos rfl, if_neg (by omega)]
  · rw [if_neg z, if_neg (by omega)]
theorem p67_e (e : EV_ M p i v0 w0) (h : J_ M p i v0 w0 v w) (hc : ¬ (v 3 6 = 0 ∧ ((11 ≤ v0 6 (v 3 5) ∧ v0 6 (v 3 5) ≤ 16) ∨ v0 6 (v 3 5) = 6))) : fX3_parseBlock_67 3 b v = bd_ (fX3_parseEnd 3 b v) fun q13 => some (0, q13.2) := by
  unfold fX3_parseBlock_67
  rw [seesLine_e e h, if_neg hc, bd_s, if_pos rfl]
theorem p43_e (N : Nat) (e : EV_ M p i v0 w0) (h : J_ M p i v0 w0 v w) (hc : ¬ (v 3 6 = 0 ∧ ((11 ≤ v0 6 (v 3 5) ∧ v0 6 (v 3 5) ≤ 16) ∨ v0 6 (v 3 5) = 6))) : fX3_parseBlock_43 (N + 1) 3 b n v = bd_ (fX3_parseEnd 3 b v) fun q13 => some (0, q13.2) := by
  rw [fX3_parseBlock_43, p67_e e h hc]
  by_cases c : 6 ≤ n
  · rw [if_pos c]
  · rw [if_neg c, seesLine_e e h, if_neg hc, bd_s, if_pos rfl]
    exact p67_e e h hc
/-- the class behind a fault -/
theorem loop_F (N : Nat) (e : EV_ M p i v0 w0) (h : J_ M p i v0 w0 v w) (hF : v 3 6 ≠ 0) (hb : 0 ≤ b ∧ b < 8) : ∃ v', fX3_parseBlock_43 (N + 1) 3 b n v = some (0, v') ∧ J_ M p i v0 w0 v' w ∧ PB1_ p b v v' ∧ v' 3 6 ≠ 0 := by
  obtain ⟨v', a1, a2, a3, a4⟩ := parseEnd_F e h hF hb
  exact ⟨v', by rw [p43_e N e h (by omega), a1, bd_s], a2, PB1_n a3, a4⟩
theorem loop_J (e : EV_ M p i v0 w0) (hb : 0 ≤ b ∧ b < 8) (hx : x = 8 * i + b) : ∀ (d N1 N2 : Nat) (n : Int) (v w : V_), n + d = 6 → 0 ≤ n → d < N1 → d < N2 → J_ M p i v0 w0 v w → v (p + 1) b = n → w 826 x = n → SE_ v (p + 56 + b) 2 20 20 → v 10 (2 * b) = 0 ∧ v 10 (2 * b + 1) = 0 → (v 3 6 = 0 → ∀ j, 0 ≤ j → j < n → LR_ p b x j v w) → 0 ≤ w 823 i ∧ w 823 i ≤ 8 → ∃ v' w', fX3_parseBlock_43 N1 3 b n v = some (0, v') ∧ fX12_tellBlock_118 N2 814 x w = some (0, w') ∧ J_ M p i v0 w0 v' w' ∧ PB1_ p b v v' ∧ PB2_ i x w w' ∧ (v' 3 6 = 0 → BR_ M p b x v0 w0 v' w' ∧ w' 823 i = w 823 i + 1) := by
  have hi := e.2.2.1
  have hp := e.2.1
  have hx2 : 0 ≤ x ∧ x < 16 := by omega
  intro d
  induction d using Nat.strongRecOn with
  | _ d ih =>
    intro N1 N2 n v w hn n0 hN1 hN2 h hv hw hS hz hL h823
    obtain ⟨N1, rfl⟩ : ∃ m, N1 = m + 1 := ⟨N1 - 1, by omega⟩
    obtain ⟨N2, rfl⟩ : ∃ m, N2 = m + 1 := ⟨N2 - 1, by omega⟩
    have k := JF_ h
    by_cases z : v 3 6 = 0
    · have t26 : TkS_ 6 26 := by unfold TkS_; omega
      by_cases l : (11 ≤ v0 6 (v 3 5) ∧ v0 6 (v 3 5) ≤ 16) ∨ v0 6 (v 3 5) = 6
      · -- a line stands there
        have R : fX12_tellBlock_118 (N2 + 1) 814 x w = fX12_tellBlock_134 (fX12_tellBlock_118 N2) 814 x w := by
          rw [fX12_tellBlock_118, isReg_e e h z]
          by_cases c : 11 ≤ v0 6 (v 3 5) ∧ v0 6 (v 3 5) ≤ 16
          · rw [if_pos c, bd_s, if_neg n10_]
          · rw [if_neg c, bd_s, if_pos rfl]
            try dsimp only
            rw [is_s e h z t26, if_pos (l.resolve_left c), bd_s, if_neg n10_]
        rw [R, fX12_tellBlock_134, ck_t hx2, show (814 : Int) + 12 = 826 from rfl, fX3_parseBlock_43]
        by_cases c6 : n = 6
        · obtain ⟨v1, w1, a1, r1, h1, q1, q2, z1⟩ := fail_J e h (c := 2) (by decide)
          have k1 := JF_ h1
          rw [if_pos (by omega), if_pos (by omega), fX3_parseBlock_67, seesLine_e e h, if_pos ⟨z, l⟩, bd_s, if_neg n10_, a1, bd_s, r1, bd_s, fX12_tellBlock_150, if_neg (show ¬ w1 814 13 ≤ 0 by omega)]
          exact ⟨v1, w1, rfl, rfl, h1, PB1_c q1, PB2_c q2, fun y => absurd y z1⟩
        · have hj : v (p + 1) b = n ∧ 0 ≤ n ∧ n < 6 := ⟨hv, n0, by omega⟩
          obtain ⟨v1, w1, a1, r1, h1, q1, q2, e1, z1⟩ := line_T (x := 6 * x + n) e h z l hb hj (by omega)
          have w1x : w1 826 x = n := by rw [q2 _ _ (by omega) (by omega)]; exact hw
          rw [if_neg (by omega), if_neg (by omega), seesLine_e e h, if_pos ⟨z, l⟩, bd_s, if_neg n10_, a1, bd_s, wr_id (x := n + 1) (by omega), lt_d, fX12_tellBlock_150, if_pos (by omega), ck_t hx2, show (814 : Int) + 12 = 826 from rfl, hw, wr_id (x := 6 * x) (by omega), wr_id (x := 6 * x + n) (by omega), r1, bd_s, ck_t hx2, ck_t hx2]
          try dsimp only
          rw [w1x, wr_id (x := n + 1) (by omega), lt_d]
          have g1 : J_ M p i v0 w0 v1 (up_ w1 826 x (n + 1)) := J_rw e h1 (Or.inl (Or.inr (Or.inr (Or.inl ⟨Or.inl rfl, by omega, by omega⟩))))
          obtain ⟨v', w', o1, o2, o3, o4, o5, o6⟩ := ih (d - 1) (by omega) N1 N2 (n + 1) v1 (up_ w1 826 x (n + 1)) (by omega) (by omega) (by omega) (by omega) g1 e1 (up_s ⟨rfl, rfl⟩) (by
            unfold SE_
            rw [q1 _ _ (by omega) (by omega) (by omega), q1 _ _ (by omega) (by omega) (by omega), q1 _ _ (by omega) (by omega) (by omega), q1 _ _ (by omega) (by omega) (by omega)]
            exact hS) (by
            rw [q1 _ _ (by omega) (by omega) (by omega), q1 _ _ (by omega) (by omega) (by omega)]
            exact hz) (fun y j j0 j1 => by
            obtain ⟨-, so, o, r, a, c, y1, y2, y3, y4, y5, y6, y7⟩ := z1 y
            by_cases cj : j = n
            · unfold LR_
              rw [cj, up_n (by omega), up_n (by omega), up_n (by omega), up_n (by omega), up_n (by omega), y3, y4, y5, y6, y7]
              exact ⟨y1, y2⟩
            · have j2 : j < n := by omega
              clear y1 y2 y3 y4 y5 y6 y7 z1
              exact LR_fr (hL z j j0 j2) (fun k => q1 _ _ (by omega) (by omega) (by omega)) (fun a g g2 => (up_n (by omega)).trans (q2 _ _ (by omega) (by omega)))) (by rw [up_n (by omega), q2 _ _ (by omega) (by omega)]; exact h823)
          refine ⟨v', w', o1, o2, o3, PB1_tr (PB1_l q1 ⟨n0, by omega⟩) o4, PB2_tr (PB2_l q2 ⟨n0, by omega⟩) (PB2_tr (fun a k g g2 _ _ _ => up_n (by omega)) o5), fun y => ?_⟩
          obtain ⟨y1, y2⟩ := o6 y
          refine ⟨y1, ?_⟩
          rw [y2, up_n (by omega), q2 _ _ (by omega) (by omega)]
      · -- the end
        obtain ⟨v1, w1, a1, r1, h1, q1, q2, z1⟩ := end_J e h z hb hx hS hz
        have k1 := JF_ h1
        have R : fX12_tellBlock_118 (N2 + 1) 814 x w = fX12_tellBlock_198 814 w1 := by
          rw [fX12_tellBlock_118, isReg_e e h z, if_neg (fun c => l (Or.inl c)), bd_s, if_pos rfl]
          try dsimp only
          rw [is_s e h z t26, if_neg (fun c => l (Or.inr c)), bd_s, if_pos rfl, if_pos (show w 814 13 = 0 by omega)]
          try dsimp only
          rw [r1, bd_s]
        rw [p43_e N1 e h (fun c => l c.2), a1, bd_s, R, fX12_tellBlock_198]
        try dsimp only
        by_cases y : v1 3 6 = 0
        · have i1 := (J_tok e h1).2.2.2.2
          have e23 : w1 823 i = w 823 i := q2 _ _ (by omega) (by omega) (by omega)
          rw [if_pos (show w1 814 13 = 0 by omega), ck_t (by omega), ck_t (by omega), show (814 : Int) + 9 = 823 from rfl, i1, e23, wr_id (by omega), lt_d]
          have g1 : J_ M p i v0 w0 v1 (up_ w1 823 i (w 823 i + 1)) := J_rw e h1 (Or.inl (Or.inl ⟨rfl, rfl⟩))
          have Z := z1 y
          have F : ∀ a k, a ≠ 823 → up_ w1 823 i (w 823 i + 1) a k = w1 a k := fun a k g => up_n (by omega)
          have e26 : w1 826 x = n := by rw [q2 _ _ (by omega) (by omega) (by omega)]; exact hw
          refine ⟨v1, _, rfl, rfl, g1, PB1_n q1, PB2_tr (PB2_n q2) (fun a k _ _ _ _ g => up_n (by omega)), fun _ => ⟨⟨?_, ?_, fun j j0 j1 => ?_, ?_⟩, up_s ⟨rfl, rfl⟩⟩⟩
          · rw [F _ _ (by decide), e26]; omega
          · rw [F _ _ (by decide), e26, q1 _ _ (by omega) (by omega) (by omega)]; exact hv
          · rw [F _ _ (by decide), e26] at j1
            exact LR_fr (hL z j j0 j1) (fun k => q1 _ _ (by omega) (by omega) (by omega)) (fun a g g2 => (F _ _ (by omega)).trans (q2 _ _ (by omega) (by omega) (by omega)))
          · unfold EB_ WY_ at Z ⊢
            simp only [F _ _ (show (832 : Int) ≠ 823 by decide), F _ _ (show (833 : Int) ≠ 823 by decide), F _ _ (show (834 : Int) ≠ 823 by decide), F _ _ (show (835 : Int) ≠ 823 by decide), F _ _ (show (836 : Int) ≠ 823 by decide)]
            exact Z
        · rw [if_neg (show ¬ w1 814 13 = 0 by omega)]
          exact ⟨v1, w1, rfl, rfl, h1, PB1_n q1, PB2_n q2, fun q => absurd q y⟩
    · obtain ⟨v', a1, a2, a3, a4⟩ := loop_F (n := n) N1 e h z hb
      rw [a1, fX12_tellBlock_118, isReg_F (by omega), bd_s, if_pos rfl]
      try dsimp only
      rw [is_F (by omega), bd_s, if_pos rfl, if_neg (show ¬ w 814 13 = 0 by omega), fX12_tellBlock_198]
      try dsimp only
      rw [if_neg (show ¬ w 814 13 = 0 by omega)]
      exact ⟨v', w, rfl, rfl, a2, a3, PB2_r, fun q => absurd q a4⟩
end BLK
