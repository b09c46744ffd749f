/-! layer 2: a trace gone through, in both: how it ends -/
theorem blocksTo_e {v : V_} {t n i0 b : Int} (hn : n ≤ 4) (h1 : v (200 + 75 * t) 1 = n) (hb : ∀ i, 0 ≤ i → i < n → (v (201 + 75 * t) i = b ↔ i = i0)) (h0 : 0 ≤ i0 ∧ i0 < n) : fX6_blocksTo (200 + 75 * t) b v = some (i0 + 1, v) := by
  unfold fX6_blocksTo
  obtain ⟨s, e, -, h⟩ := lp_s (σ := Int) (F := fun k i s => fX6_blocksTo_4 k (200 + 75 * t) b s i v) (K := fun s => some (s, v)) (e := n) (I := fun i s => 0 ≤ i ∧ s = if i0 < i then i0 + 1 else 0) (fun k i s h hi => by
    obtain ⟨i1, i2⟩ := h
    rw [fX6_blocksTo_4, if_neg (by omega), ck_t (by omega), show 200 + 75 * t + 1 = 201 + 75 * t by omega]
    by_cases c : v (201 + 75 * t) i = b
    · have ei := (hb i i1 hi).1 c
      rw [if_pos c, lt_d, lt_d, wr_id (by omega)]
      exact ⟨i + 1, rfl, by omega, by rw [if_pos (by omega), ei]⟩
    · have ei : i ≠ i0 := fun z => c ((hb i i1 hi).2 z)
      rw [if_neg c, lt_d, wr_id (by omega)]
      refine ⟨s, rfl, by omega, ?_⟩
      rw [i2]
      by_cases d : i0 < i
      · rw [if_pos d, if_pos (by omega)]
      · rw [if_neg d, if_neg (by omega)]) (fun k s _ => by
    rw [fX6_blocksTo_4, if_pos (by omega)]) n.toNat fu_ 0 0 ⟨by decide, by rw [if_neg (by omega)]⟩ (by omega) (by unfold fu_; omega)
  rw [e, h, if_pos h0.2]
/-- the class leaves block b on way w -/
theorem leave_e {g v : V_} {p b w : Int} (hw : WF_ g) (hC : C_ v p g) (hb : 0 ≤ b ∧ b < g 0 0) (hi : 0 ≤ w ∧ w < 2) : ∃ u, fX6_leave 807 p b w v = some (0, u) ∧ u 807 9 = (if 0 ≤ g 10 (2 * b + w) then g 10 (2 * b + w) else -1) ∧ ∀ a k, a ≠ 811 → ¬ (a = 807 ∧ k = 9) → u a k = v a k := by
  have hn := hw.1
  unfold fX6_leave
  rw [leadsTo_e hw hC hb hi, bd_s, lt_d]
  dsimp only
  by_cases c : 0 ≤ g 10 (2 * b + w)
  · rw [if_pos (show 0 ≤ up_ v 807 9 (g 10 (2 * b + w)) 807 9 by rw [up_s ⟨rfl, rfl⟩]; exact c), if_pos c, wr_id (show -2147483648 ≤ b * 2 ∧ b * 2 < 2147483648 by omega), wr_id (show -2147483648 ≤ b * 2 + w ∧ b * 2 + w < 2147483648 by omega), ck_t (by omega), ck_t (by omega), lt_d]
    refine ⟨_, rfl, ?_, fun a k h1 h2 => ?_⟩
    · rw [up_n (by omega), up_s ⟨rfl, rfl⟩]
    · rw [up_n (by omega), up_n (by omega)]
  · rw [if_neg (show ¬ 0 ≤ up_ v 807 9 (g 10 (2 * b + w)) 807 9 by rw [up_s ⟨rfl, rfl⟩]; exact c), if_neg c, lt_d]
    refine ⟨_, rfl, up_s ⟨rfl, rfl⟩, fun a k h1 h2 => ?_⟩
    rw [up_n (by omega), up_n (by omega)]
/-- the blocks of trace t, n of them, in both -/
def BT_ (g : V_) (t n : Int) (u w : V_) : Prop := (1 ≤ n ∧ n ≤ 4) ∧ u (200 + 75 * t) 1 = n ∧ w 847 t = n ∧ ∀ i, 0 ≤ i → i < n → u (201 + 75 * t) i = w 846 (4 * t + i) ∧ (0 ≤ w 846 (4 * t + i) ∧ w 846 (4 * t + i) < g 0 0) ∧ w 845 (w 846 (4 * t + i)) = i
theorem BT_fr {g u w u2 w2 : V_} {t n : Int} (h : BT_ g t n u w) (h1 : ∀ a k, a = 200 + 75 * t ∨ a = 201 + 75 * t → u2 a k = u a k) (h2 : ∀ a k, 845 ≤ a → a ≤ 847 → w2 a k = w a k) : BT_ g t n u2 w2 := by
  obtain ⟨b1, b2, b3, b4⟩ := h
  refine ⟨b1, by rw [h1 _ _ (by omega)]; exact b2, by rw [h2 _ _ (by omega) (by omega)]; exact b3, fun i i0 i1 => ?_⟩
  rw [h1 _ _ (by omega), h2 846 _ (by omega) (by omega), h2 845 _ (by omega) (by omega)]
  exact b4 i i0 i1
theorem gone_end {g u w : V_} {L : Int → Int} {t m n p x3 y : Int} (hw : WF_ g) (ht : 0 ≤ t ∧ t < 8) (hP : PT_ g L t m u w) (hB : BT_ g t n u w) (hC : C_ u p g) (hD : D_ w g) (hR : RC_ u 807 w) (h4 : u 807 4 = 0) (hE : EQ_ t m u w) : ∃ u' w' nx, fX6_goThrough_50 807 (200 + 75 * t) p (-1) u = some (0, u') ∧ tde_ t x3 y (w 858 (34 * t + (m - 1)) + 1, w) = some (nx, w') ∧ u' 807 5 = wr_ (u 807 5 + (w 858 (34 * t + (m - 1)) + 1)) ∧ w' 814 45 = wr_ (y + (w 858 (34 * t + (m - 1)) + 1)) ∧ u' 807 6 = wr_ (u 807 6 + n) ∧ w' 814 46 = wr_ (x3 + n) ∧ NX_ (g 0 0) (u' 807 9) nx ∧ RC_ u' 807 w' ∧ u' 807 4 = 0 ∧ (∀ a k, a ≠ 811 → ¬ (a = 807 ∧ (k = 5 ∨ k = 6 ∨ k = 9)) → u' a k = u a k) ∧ ∀ a k, ¬ (a = 814 ∧ (k = 45 ∨ k = 46)) → w' a k = w a k := by
  have hn := hw.1
  have hm := hP.1.1.2.2
  obtain ⟨b1, b2, b3, b4⟩ := hB
  have e9 : u (200 + 75 * t) 9 = w 858 (34 * t + (m - 1)) + 1 := hP.2.2.2.2.2.2.1.2.2
  have e50 : w 850 (34 * t + (m - 1)) = w 846 (4 * t + (n - 1)) := by
    rw [hP.2.2.2.2.2.2.2.2.2.1, b3]
  obtain ⟨l1, l2, -⟩ := b4 (n - 1) (by omega) (by omega)
  have it := (hP.2.1 (m - 1) (by omega) (by omega))
  have k3 : w 849 (34 * t + (m - 1)) = 3 := it.2.2.1.2 rfl
  obtain ⟨-, -, -, -, -, -, -, -, o⟩ := it.1
  have e52 : w 852 (34 * t + (m - 1)) = g 7 (w 846 (4 * t + (n - 1))) ∧ (0 ≤ w 852 (34 * t + (m - 1)) ∧ w 852 (34 * t + (m - 1)) ≤ 2) := by
    rcases o with ⟨o, -⟩ | ⟨o, -⟩ | ⟨o, -⟩ | ⟨-, -, o1, -, -, -, o2⟩
    · omega
    · omega
    · omega
    · rw [e50] at o2
      exact ⟨o2, o1⟩
  have en := (hw.2 _ l2.1 l2.2).2.1
  obtain ⟨x, z, q1, q2⟩ := hE
  have ew01 : ∀ e, ew_ e x z = 0 ∨ ew_ e x z = 1 := fun e => by
    unfold ew_
    split
    · split
      · exact Or.inr rfl
      · exact Or.inl rfl
    · exact Or.inl rfl
  generalize hs : ew_ (w 852 (34 * t + (m - 1))) x z = s at q1 q2
  have s01 : s = 0 ∨ s = 1 := hs ▸ ew01 _
  generalize eb : w 846 (4 * t + (n - 1)) = b at *
  -- the class
  unfold fX6_goThrough_50 tde_
  rw [if_neg (by omega), if_pos rfl, lt_d, lt_d]
  have f1 : ∀ a k, ¬ (a = 807 ∧ (k = 5 ∨ k = 6)) → up_ (up_ u 807 6 (wr_ (u 807 6 + u (200 + 75 * t) 1))) 807 5 (wr_ (up_ u 807 6 (wr_ (u 807 6 + u (200 + 75 * t) 1)) 807 5 + up_ u 807 6 (wr_ (u 807 6 + u (200 + 75 * t) 1)) (200 + 75 * t) 9)) a k = u a k := fun a k h => by rw [up_n (by omega), up_n (by omega)]
  have f5 : up_ (up_ u 807 6 (wr_ (u 807 6 + u (200 + 75 * t) 1))) 807 5 (wr_ (up_ u 807 6 (wr_ (u 807 6 + u (200 + 75 * t) 1)) 807 5 + up_ u 807 6 (wr_ (u 807 6 + u (200 + 75 * t) 1)) (200 + 75 * t) 9)) 807 5 = wr_ (u 807 5 + (w 858 (34 * t + (m - 1)) + 1)) := by
    rw [up_s ⟨rfl, rfl⟩, up_n (by omega), up_n (by omega), e9]
  have f6 : up_ (up_ u 807 6 (wr_ (u 807 6 + u (200 + 75 * t) 1))) 807 5 (wr_ (up_ u 807 6 (wr_ (u 807 6 + u (200 + 75 * t) 1)) 807 5 + up_ u 807 6 (wr_ (u 807 6 + u (200 + 75 * t) 1)) (200 + 75 * t) 9)) 807 6 = wr_ (u 807 6 + n) := by
    rw [up_n (by omega), up_s ⟨rfl, rfl⟩, b2]
  generalize up_ (up_ u 807 6 (wr_ (u 807 6 + u (200 + 75 * t) 1))) 807 5 (wr_ (up_ u 807 6 (wr_ (u 807 6 + u (200 + 75 * t) 1)) 807 5 + up_ u 807 6 (wr_ (u 807 6 + u (200 + 75 * t) 1)) (200 + 75 * t) 9)) = u1 at f1 f5 f6 ⊢
  have hC1 : C_ u1 p g := C_fr hw hC (fun a k a0 a1 => f1 _ _ (by omega)) (fun k _ _ => f1 _ _ (by omega))
  have lb : fX10_lastBlock (200 + 75 * t) u1 = some (b, u1) := by
    unfold fX10_lastBlock
    have e1 : u1 (200 + 75 * t) 1 = n := (f1 _ _ (by omega)).trans b2
    rw [e1, if_neg (by omega), if_neg (by omega), wr_id (by omega), ck_t (by omega), show 200 + 75 * t + 1 = 201 + 75 * t by omega, f1 _ _ (by omega), l1]
  rw [lb, bd_s]
  dsimp only
  obtain ⟨u2, c1, c2, c3⟩ := leave_e (b := b) (w := s) hw hC1 l2 (by omega)
  rw [f1 807 10 (by omega), q1, c1, bd_s]
  -- the reference
  dsimp only [Int.reduceAdd]
  generalize hv9 : up_ w 814 45 (wr_ (y + (w 858 (34 * t + (m - 1)) + 1))) = v9
  have r47 : v9 847 t = n := by rw [← hv9, up_n (by omega)]; exact b3
  rw [lt_d, ck_t ht, r47]
  generalize hw1 : up_ v9 814 46 (wr_ (x3 + n)) = w1
  have g1 : ∀ a k, ¬ (a = 814 ∧ (k = 45 ∨ k = 46)) → w1 a k = w a k := fun a k h => by rw [← hw1, up_n (by omega), ← hv9, up_n (by omega)]
  have g2 : w1 814 45 = wr_ (y + (w 858 (34 * t + (m - 1)) + 1)) := by rw [← hw1, up_n (by omega), ← hv9, up_s ⟨rfl, rfl⟩]
  have g3 : w1 814 46 = wr_ (x3 + n) := by rw [← hw1, up_s ⟨rfl, rfl⟩]
  rw [lt_d, ck_t ht, lt_d]
  have e48 : w1 848 t = m := (g1 _ _ (by omega)).trans hP.1.1.2.1
  rw [e48, wr_id (show -2147483648 ≤ m - 1 ∧ m - 1 < 2147483648 by omega), ck_t (by omega)]
  have q3 : w1 868 (m - 1) = if w 852 (34 * t + (m - 1)) = 2 then -1 else s := (g1 868 _ (by omega)).trans q2
  have hD1 : D_ w1 g := D_fr hD (g1 _ _ (by omega)) (fun a k a0 a1 => g1 _ _ (by omega)) (fun k _ _ => g1 _ _ (by omega))
  have fin : ∀ nx, NX_ (g 0 0) (u2 807 9) nx → ∃ u' w' nx', (some ((0 : Int), u2) : Option (Int × V_)) = some (0, u') ∧ (some (nx, w1) : Option (Int × V_)) = some (nx', w') ∧ u' 807 5 = wr_ (u 807 5 + (w 858 (34 * t + (m - 1)) + 1)) ∧ w' 814 45 = wr_ (y + (w 858 (34 * t + (m - 1)) + 1)) ∧ u' 807 6 = wr_ (u 807 6 + n) ∧ w' 814 46 = wr_ (x3 + n) ∧ NX_ (g 0 0) (u' 807 9) nx' ∧ RC_ u' 807 w' ∧ u' 807 4 = 0 ∧ (∀ a k, a ≠ 811 → ¬ (a = 807 ∧ (k = 5 ∨ k = 6 ∨ k = 9)) → u' a k = u a k) ∧ ∀ a k, ¬ (a = 814 ∧ (k = 45 ∨ k = 46)) → w' a k = w a k := fun nx hN => by
    refine ⟨u2, w1, nx, rfl, rfl, (c3 _ _ (by omega) (by omega)).trans f5, g2, (c3 _ _ (by omega) (by omega)).trans f6, g3, hN, RC_fr hR (fun k => ?_) (fun k => ?_) (fun k => g1 _ _ (by omega)) (fun k => g1 _ _ (by omega)), ?_, fun a k h h2 => ?_, g1⟩
    · rw [c3 _ _ (by omega) (by omega), f1 _ _ (by omega)]
    · rw [c3 _ _ (by omega) (by omega), f1 _ _ (by omega)]
    · rw [c3 _ _ (by omega) (by omega), f1 _ _ (by omega)]; exact h4
    · rw [c3 _ _ h (by omega), f1 _ _ (by omega)]
  by_cases c : w 852 (34 * t + (m - 1)) = 2
  · rw [if_pos c] at q3
    rw [if_neg (show ¬ 0 ≤ w1 868 (m - 1) by omega)]
    refine fin _ (Or.inl ⟨?_, by decide, by decide⟩)
    have s0 : s = 0 := by
      rw [← hs, c]
      rfl
    rcases en with ⟨y1, -⟩ | ⟨y1, -⟩ | ⟨y1, -, -, y4, y5⟩
    · omega
    · omega
    · rw [c2, s0, if_neg (by rw [Int.add_zero, y4]; decide)]
  · rw [if_neg c] at q3
    rw [if_pos (show 0 ≤ w1 868 (m - 1) by omega), wr_id (show -2147483648 ≤ 34 * t ∧ 34 * t < 2147483648 by omega), wr_id (show -2147483648 ≤ 34 * t + (m - 1) ∧ 34 * t + (m - 1) < 2147483648 by omega), ck_t (by omega), ck_t (by omega), g1 850 _ (by omega), e50, q3, wayTo_e hD1 (by omega) (by omega), bd_s]
    dsimp only
    have tgt : 0 ≤ g 10 (2 * b + s) ∧ g 10 (2 * b + s) < g 0 0 := by
      rcases en with ⟨y1, -, -, y4, y5, -⟩ | ⟨y1, -, -, y4, y5, y6, y7⟩ | ⟨y1, -⟩
      · have s0 : s = 0 := by
          rw [← hs, e52.1, y1]
          rfl
        rw [s0, Int.add_zero]
        exact ⟨y4, y5⟩
      · rcases s01 with s0 | s0
        · rw [s0, Int.add_zero]
          exact ⟨y4, y5⟩
        · rw [s0]
          exact ⟨y6, y7⟩
      · exact absurd (e52.1.trans y1) c
    refine fin _ (Or.inr ?_)
    rw [c2, if_pos tgt.1]
    exact ⟨tgt.1, tgt.2, rfl⟩
