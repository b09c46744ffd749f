/-! layer 2: faults that count later, numbers, units, in both -/
def LTb_ (M b : Int) (v0 w0 v w : V_) : Prop := (v 3 8 = 0 ∧ w 814 15 = 0 ∧ v 3 9 = -1) ∨ (v 3 8 = w 814 15 ∧ v 3 9 = w 814 16 ∧ (3 ≤ v 3 8 ∧ v 3 8 ≤ 5) ∧ ∃ T, 0 ≤ T ∧ T < b ∧ T < M ∧ v 3 9 = w0 818 T ∧ (v 3 8 = 5 → v0 6 T = 18))
def fl1_ (v : V_) (c y : Int) : V_ := up_ (up_ v 3 8 c) 3 9 y
def fl2_ (w : V_) (c y : Int) : V_ := up_ (up_ w 814 15 c) 814 16 y
def Eq1_ (v v' : V_) : Prop := ∀ a k, ¬ (a = 3 ∧ 5 ≤ k ∧ k ≤ 9) → v' a k = v a k
def Eq2_ (w w' : V_) : Prop := ∀ a k, ¬ (a = 814 ∧ (k = 11 ∨ (13 ≤ k ∧ k ≤ 16))) → w' a k = w a k
theorem Eq1_r {v : V_} : Eq1_ v v := fun _ _ _ => rfl
theorem Eq2_r {v : V_} : Eq2_ v v := fun _ _ _ => rfl
theorem Eq1_tr {u v w : V_} (h : Eq1_ u v) (h2 : Eq1_ v w) : Eq1_ u w := fun a k q => (h2 a k q).trans (h a k q)
theorem Eq2_tr {u v w : V_} (h : Eq2_ u v) (h2 : Eq2_ v w) : Eq2_ u w := fun a k q => (h2 a k q).trans (h a k q)
theorem Eq1_e {v w : V_} (h : Ec_ v w) : Eq1_ v w := fun a k q => h a k (by omega)
theorem Eq2_e {v w : V_} (h : Er_ v w) : Eq2_ v w := fun a k q => h a k (by omega)
theorem fl1_E {v : V_} {c y : Int} : Eq1_ v (fl1_ v c y) := fun a k q => by
  unfold fl1_
  rw [up_n (by omega), up_n (by omega)]
theorem fl2_E {v : V_} {c y : Int} : Eq2_ v (fl2_ v c y) := fun a k q => by
  unfold fl2_
  rw [up_n (by omega), up_n (by omega)]
theorem fl1_i {v : V_} {c y : Int} : fl1_ v c y 3 8 = c ∧ fl1_ v c y 3 9 = y ∧ ∀ a k, ¬ (a = 3 ∧ 8 ≤ k ∧ k ≤ 9) → fl1_ v c y a k = v a k := by
  unfold fl1_
  exact ⟨by rw [up_n (by omega), up_s ⟨rfl, rfl⟩], up_s ⟨rfl, rfl⟩, fun a k q => by rw [up_n (by omega), up_n (by omega)]⟩
theorem fl2_i {v : V_} {c y : Int} : fl2_ v c y 814 15 = c ∧ fl2_ v c y 814 16 = y ∧ ∀ a k, ¬ (a = 814 ∧ 15 ≤ k ∧ k ≤ 16) → fl2_ v c y a k = v a k := by
  unfold fl2_
  exact ⟨by rw [up_n (by omega), up_s ⟨rfl, rfl⟩], up_s ⟨rfl, rfl⟩, fun a k q => by rw [up_n (by omega), up_n (by omega)]⟩
theorem up_comm {v : V_} {a k x b j y : Int} (h : ¬ (a = b ∧ k = j)) : up_ (up_ v a k x) b j y = up_ (up_ v b j y) a k x := by
  funext c l
  unfold up_
  by_cases q : c = b ∧ l = j
  · rw [if_pos q, if_neg (by omega), if_pos q]
  · rw [if_neg q]
    by_cases q2 : c = a ∧ l = k
    · rw [if_pos q2, if_pos q2]
    · rw [if_neg q2, if_neg q2, if_neg q]
theorem failLater_e {v : V_} {c y : Int} : fX3_failLater 3 c y v = some (0, if v 3 8 = 0 ∨ y < v 3 9 then fl1_ v c y else v) := by
  unfold fX3_failLater fX3_failLater_15
  by_cases q : v 3 8 = 0
  · rw [if_pos q, if_pos (Or.inl q)]
    rfl
  · rw [if_neg q]
    by_cases q2 : v 3 9 ≤ y
    · rw [if_pos q2, if_neg (by omega)]
    · rw [if_neg q2, if_pos (by omega)]
      rfl
theorem wrong_e {w : V_} {c T : Int} (h : ¬ 0 < w 814 13) (hT : 0 ≤ T ∧ T < 403) : fX12_wrong 814 c T w = some (0, if w 814 15 = 0 ∨ w 818 T < w 814 16 ∨ (w 818 T = w 814 16 ∧ c < w 814 15) then fl2_ w c (w 818 T) else w) := by
  unfold fX12_wrong fX12_wrong_46
  rw [ck_t hT, show (814 : Int) + 4 = 818 from rfl, lt_d, if_neg h]
  by_cases q : w 814 15 = 0
  · rw [if_pos q, if_pos (Or.inl q)]
    rfl
  · rw [if_neg q]
    by_cases q2 : w 814 16 < w 818 T
    · rw [if_pos q2, if_neg (by omega)]
    · rw [if_neg q2]
      by_cases q3 : w 818 T = w 814 16
      · rw [if_pos q3]
        by_cases q4 : c < w 814 15
        · rw [if_pos q4, if_pos (by omega)]
          rfl
        · rw [if_neg q4, if_neg (by omega)]
      · rw [if_neg q3, if_pos (by omega)]
        rfl
section LATER
variable {M p i : Int} {v0 w0 v w v' w' : V_} {s t b c x k T : Int}
/-- a later fault told of a token behind all those told before -/
theorem J_late (e : EV_ M p i v0 w0) (h : J_ M p i v0 w0 v w) (hT : 0 ≤ T ∧ T < v 3 5) (hb : LTb_ M T v0 w0 v w) (hc : 3 ≤ c ∧ c ≤ 5) (h5 : c = 5 → v0 6 T = 18) : (v 3 8 = 0 ∨ w0 818 T < v 3 9 ↔ v 3 8 = 0) ∧ (w 814 15 = 0 ∨ w0 818 T < w 814 16 ∨ (w0 818 T = w 814 16 ∧ c < w 814 15) ↔ v 3 8 = 0) ∧ J_ M p i v0 w0 (if v 3 8 = 0 then fl1_ v c (w0 818 T) else v) (if v 3 8 = 0 then fl2_ w c (w0 818 T) else w) := by
  have m := e.1.2.2.2.2.1
  have h4 := h.2.2.2.1
  have key : v 3 8 ≠ 0 → v 3 8 = w 814 15 ∧ v 3 9 = w 814 16 ∧ v 3 9 < w0 818 T := fun z => by
    rcases hb with ⟨q, -⟩ | ⟨q1, q2, q3, T0, t0, t1, t2, t3, t4⟩
    · exact absurd q z
    · have := m T0 T t0 t1 (by omega)
      exact ⟨q1, q2, by omega⟩
  have z0 : v 3 8 = 0 → w 814 15 = 0 := fun z => by
    rcases hb with ⟨-, q, -⟩ | ⟨q1, q2, q3, -⟩
    · exact q
    · omega
  refine ⟨⟨fun q => ?_, Or.inl⟩, ⟨fun q => ?_, fun q => Or.inl (z0 q)⟩, ?_⟩
  · by_cases z : v 3 8 = 0
    · exact z
    · have := key z
      omega
  · by_cases z : v 3 8 = 0
    · exact z
    · have := key z
      omega
  · by_cases z : v 3 8 = 0
    · rw [if_pos z, if_pos z]
      obtain ⟨f1, f2, g, -, h5', h6, h7, h8, h9, h10⟩ := h
      obtain ⟨i1, i2, i3⟩ := fl1_i (v := v) (c := c) (y := w0 818 T)
      obtain ⟨j1, j2, j3⟩ := fl2_i (v := w) (c := c) (y := w0 818 T)
      have hp := e.2.1
      refine ⟨fun a k q q2 q3 => (i3 a k (by omega)).trans (f1 a k q q2 q3), fun a k q q2 q3 q4 => (j3 a k (by omega)).trans (f2 a k q q2 q3 q4), GD_p hp g (i3 _ _ (by omega)) (fun k _ _ => i3 _ _ (by omega)), ?_, ?_, ?_, ?_, ?_, fun _ => Or.inr ⟨by rw [i1, j1], by rw [i2, j2], by rw [i1]; exact hc, T, hT.1, ?_, by omega, i2, fun q => ?_⟩, ?_⟩
      · rw [i3 _ _ (by omega)]; exact h4
      · rw [i3 _ _ (by omega), j3 _ _ (by omega)]; exact h5'
      · rw [i3 _ _ (by omega), j3 _ _ (by omega)]; exact h6
      · rw [i3 _ _ (by omega)]; exact h7
      · rw [i3 _ _ (by omega), i3 _ _ (by omega), j3 _ _ (by omega)]; exact h8
      · rw [i3 _ _ (by omega)]; exact hT.2
      · rw [i1] at q; exact h5 q
      · rw [i3 _ _ (by omega)]; exact h10
    · rw [if_neg z, if_neg z]
      exact h
theorem LT_b (h : LT_ M v0 w0 v w) : LTb_ M (v 3 5) v0 w0 v w := h
theorem LTb_fr {b : Int} (h : LTb_ M b v0 w0 v w) (f1 : v' 3 8 = v 3 8 ∧ v' 3 9 = v 3 9) (f2 : w' 814 15 = w 814 15 ∧ w' 814 16 = w 814 16) : LTb_ M b v0 w0 v' w' := by
  unfold LTb_
  rw [f1.1, f1.2, f2.1, f2.2]
  exact h
/-- a number told, up to some -/
theorem takeUpTo_J (e : EV_ M p i v0 w0) (h : J_ M p i v0 w0 v w) {m : Int} (hm : 0 < m ∧ m < 10) : ∃ r r' v' w', fX3_takeUpTo 3 m v = some (r, v') ∧ fX12_bounded 814 1 m w = some (r', w') ∧ J_ M p i v0 w0 v' w' ∧ Eq1_ v v' ∧ Eq2_ w w' ∧ (v' 3 6 = 0 → v 3 6 = 0 ∧ r = r' ∧ (v' 3 8 = 0 → v 3 8 = 0 ∧ 1 ≤ r ∧ r ≤ m)) := by
  have k := JF_ h
  have h4 := h.2.2.2.1
  have h5 := h.2.2.2.2.1
  have m1 := e.1.1
  obtain ⟨-, -, t3, -⟩ := J_tok e h
  unfold fX3_takeUpTo
  rw [show (3 : Int) + 1 = 4 from rfl, placeAt_e e h, bd_s]
  try dsimp only
  rw [valueAt_e e h, bd_s, lt_d]
  try dsimp only
  by_cases z : v 3 6 = 0
  · unfold fX12_bounded
    have t2 : TkS_ 18 2 := by unfold TkS_; omega
    rw [if_neg (show ¬ 0 < w 814 13 by omega), is_s e h z t2]
    by_cases c : v0 6 (v 3 5) = 18
    · obtain ⟨n1, n2, n3⟩ := (e.1.2.2.1 _ h4.1 h4.2).1.2.1 c
      obtain ⟨v1, w1, a1, a2, a3, a4, a5, a6⟩ := take_N e h z (by omega)
      have X : fX3_expect 3 18 v = some (0, v1) := by
        unfold fX3_expect
        rw [sees_e e h, if_pos c, bd_s, if_neg n10_]
        try dsimp only
        rw [a1, bd_s]
      rw [if_pos c, bd_s, if_neg n10_, X, bd_s, n1, wr_id (x := w0 819 (v 3 5)) (by omega)]
      try dsimp only
      rw [ck_t (show 0 ≤ w 814 11 ∧ w 814 11 < 403 by omega), lt_d, h5, show (814 : Int) + 5 = 819 from rfl, t3 819 _ (by decide) (by decide)]
      have OUT : ¬ (1 ≤ w0 819 (v 3 5) ∧ w0 819 (v 3 5) ≤ m) → ∃ r r' v' w', (if v1 3 6 = 0 then fX3_takeUpTo_48 3 (w0 818 (v 3 5)) (w0 819 (v 3 5)) v1 else some (w0 819 (v 3 5), v1)) = some (r, v') ∧ fX12_bounded_42 814 (w0 819 (v 3 5)) w = some (r', w') ∧ J_ M p i v0 w0 v' w' ∧ Eq1_ v v' ∧ Eq2_ w w' ∧ (v' 3 6 = 0 → v 3 6 = 0 ∧ r = r' ∧ (v' 3 8 = 0 → v 3 8 = 0 ∧ 1 ≤ r ∧ r ≤ m)) := fun hout => by
        unfold fX12_bounded_42 fX3_takeUpTo_48
        have g0 := h.2.2.2.2.2.2.2.2.1 z
        rw [h5, wrong_e (by omega) (by omega), bd_s, t3 818 _ (by decide) (by decide)]
        try dsimp only
        by_cases z1 : v1 3 6 = 0
        · have a6' := a6 z1
          -- no fault yet
          have gb : LTb_ M (v 3 5) v0 w0 v1 w1 := LTb_fr (LT_b g0) ⟨a4 _ _ (by omega), a4 _ _ (by omega)⟩ ⟨a5 _ _ (by omega), a5 _ _ (by omega)⟩
          obtain ⟨b1, b2, b3⟩ := J_late (c := 5) e a3 (T := v 3 5) ⟨h4.1, by omega⟩ gb (by decide) (fun _ => c)
          rw [if_pos z1, failLater_e, bd_s]
          have w11 : w1 814 11 = v 3 5 + 1 := by rw [a3.2.2.2.2.1, a6']
          have go : fX12_goesOn 814 w = some (0, up_ w 814 11 (v 3 5 + 1)) ∧ w1 = up_ w 814 11 (v 3 5 + 1) := by
            have q : ¬ w 814 11 = 400 := by
              have := a3.2.2.2.1
              omega
            unfold fX12_goesOn at a2 ⊢
            rw [if_neg q, h5, wr_id (by omega), lt_d] at a2 ⊢
            exact ⟨rfl, (Prod.mk.inj (Option.some.inj a2)).2.symm⟩
          have i1 : w1 814 15 = w 814 15 := a5 _ _ (by omega)
          have i2 : w1 814 16 = w 814 16 := a5 _ _ (by omega)
          rw [i1, i2] at b2
          by_cases y : v1 3 8 = 0
          · rw [if_pos y, if_pos y] at b3
            rw [if_pos (b1.mpr y), if_pos (b2.mpr y)]
            have go2 : fX12_goesOn 814 (fl2_ w 5 (w0 818 (v 3 5))) = some (0, fl2_ w1 5 (w0 818 (v 3 5))) := by
              unfold fX12_goesOn
              obtain ⟨-, -, j3⟩ := fl2_i (v := w) (c := 5) (y := w0 818 (v 3 5))
              have q : ¬ w 814 11 = 400 := fun q => by
                have := a3.2.2.2.1
                omega
              rw [if_neg (by rw [j3 _ _ (by omega)]; exact q), j3 _ _ (by omega), h5, wr_id (by omega), lt_d, go.2]
              unfold fl2_
              rw [up_comm (a := 814) (k := 16) (by omega), up_comm (a := 814) (k := 15) (by omega)]
            rw [go2, bd_s]
            refine ⟨_, _, _, _, rfl, rfl, b3, Eq1_tr (Eq1_e a4) fl1_E, Eq2_tr (Eq2_e a5) fl2_E, fun _ => ⟨z, rfl, fun q => ?_⟩⟩
            have q' : fl1_ v1 5 (w0 818 (v 3 5)) 3 8 = 0 := q
            rw [fl1_i.1] at q'
            cases q'
          · rw [if_neg y, if_neg y] at b3
            rw [if_neg (fun q => y (b1.mp q)), if_neg (fun q => y (b2.mp q)), a2, bd_s]
            exact ⟨_, _, _, _, rfl, rfl, b3, Eq1_e a4, Eq2_e a5, fun _ => ⟨z, rfl, fun q => absurd q y⟩⟩
        · -- too many tokens
          rw [if_neg z1]
          have q400 : w 814 11 = 400 := by
            unfold fX3_take at a1
            by_cases q : v 3 5 < 400
            · rw [if_pos q, if_pos z, lt_d] at a1
              have := (Prod.mk.inj (Option.some.inj a1)).2
              rw [← this, up_n (by omega)] at z1
              exact absurd z z1
            · omega
          generalize hu : (if w 814 15 = 0 ∨ w0 818 (v 3 5) < w 814 16 ∨ (w0 818 (v 3 5) = w 814 16 ∧ 5 < w 814 15) then fl2_ w 5 (w0 818 (v 3 5)) else w) = u
          have uf : ∀ a k, ¬ (a = 814 ∧ 15 ≤ k ∧ k ≤ 16) → u a k = w a k := fun a k q => by
            rw [← hu]
            split
            · exact fl2_i.2.2 a k q
            · rfl
          have go : ∃ w2, fX12_goesOn 814 u = some (0, w2) ∧ ∀ a k, ¬ (a = 814 ∧ 15 ≤ k ∧ k ≤ 16) → w2 a k = w1 a k := by
            unfold fX12_goesOn fX12_fail at a2 ⊢
            rw [if_pos q400, if_pos (show w 814 13 ≤ 0 by omega), lt_d, ck_t (by rw [up_n (by omega)]; omega), lt_d, bd_s] at a2
            rw [if_pos (by rw [uf _ _ (by omega)]; exact q400), if_pos (by rw [uf _ _ (by omega)]; omega), lt_d, ck_t (by rw [up_n (by omega), uf _ _ (by omega)]; omega), lt_d, bd_s]
            refine ⟨_, rfl, fun a k q => ?_⟩
            rw [← (Prod.mk.inj (Option.some.inj a2)).2]
            try dsimp only
            rw [up_n (v := u) (by omega), up_n (v := w) (by omega), up_n (v := u) (by omega), up_n (v := w) (by omega), uf 814 11 (by omega), uf (814 + 4) _ (by omega)]
            by_cases q2 : a = 814 ∧ k = 14
            · rw [up_s q2, up_s q2]
            · rw [up_n q2, up_n q2]
              by_cases q3 : a = 814 ∧ k = 13
              · rw [up_s q3, up_s q3]
              · rw [up_n q3, up_n q3, uf a k q]
          obtain ⟨w2, o1, o2⟩ := go
          rw [o1, bd_s]
          obtain ⟨f1, f2, g, h4', h5', h6, h7, h8, h9, h10⟩ := a3
          refine ⟨_, _, _, w2, rfl, rfl, ⟨f1, fun a k q q2 q3 q4 => (o2 a k (by omega)).trans (f2 a k q q2 q3 q4), g, h4', by rw [o2 _ _ (by omega)]; exact h5', by rw [o2 _ _ (by omega)]; exact h6, h7, by rw [o2 _ _ (by omega)]; exact h8, fun q => absurd q z1, h10⟩, Eq1_e a4, fun a k q => (o2 a k (by omega)).trans (a5 a k (by omega)), fun q => absurd q z1⟩
      by_cases d : 1 ≤ w0 819 (v 3 5) ∧ w0 819 (v 3 5) ≤ m
      · rw [if_neg (show ¬ w0 819 (v 3 5) < 1 by omega), if_pos d.2, if_neg (show ¬ w0 819 (v 3 5) < 1 by omega), if_pos d.2, a2, bd_s]
        refine ⟨_, _, v1, w1, ?_, rfl, a3, Eq1_e a4, Eq2_e a5, fun q => ⟨z, rfl, fun q2 => ⟨(a4 _ _ (by omega)).symm.trans q2, d⟩⟩⟩
        split <;> rfl
      · obtain ⟨r, r', v', w', o1, o2, o3⟩ := OUT d
        refine ⟨r, r', v', w', ?_, ?_, o3⟩
        · rw [← o1]
          by_cases q : w0 819 (v 3 5) < 1
          · rw [if_pos q]
          · rw [if_neg q, if_neg (show ¬ w0 819 (v 3 5) ≤ m by omega)]
        · by_cases q : w0 819 (v 3 5) < 1
          · rw [if_pos q]; exact o2
          · rw [if_neg q, if_neg (show ¬ w0 819 (v 3 5) ≤ m by omega)]; exact o2
    · obtain ⟨v1, w1, a1, a2, a3, a4, a5, a6⟩ := fail_J e h (c := 1) (by decide)
      have X : fX3_expect 3 18 v = some (0, v1) := by
        unfold fX3_expect
        rw [sees_e e h, if_neg c, bd_s, if_pos rfl]
        try dsimp only
        rw [a1, bd_s]
      rw [if_neg c, bd_s, if_pos rfl, X, bd_s, if_neg a6, fX12_bounded_15]
      try dsimp only
      rw [a2, bd_s]
      exact ⟨_, _, v1, w1, rfl, rfl, a3, Eq1_e a4, Eq2_e a5, fun q => absurd q a6⟩
  · unfold fX12_bounded
    rw [if_pos (show 0 < w 814 13 by omega), expect_F e h z, bd_s, if_neg z, fX12_bounded_15, rfail_F (by omega), bd_s]
    exact ⟨_, _, v, w, rfl, rfl, h, Eq1_r, Eq2_r, fun q => absurd q z⟩
end LATER
