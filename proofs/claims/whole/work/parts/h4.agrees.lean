/-! layer 2: agrees, in both -/
/-- the class's two runs come to the same -/
def CT_ (v : V_) : Prop := v 800 4 = v 807 4 ∧ (v 800 4 = 0 → (∀ k, 0 ≤ k → k < 6 → v 801 k = v 808 k) ∧ ∀ k, 0 ≤ k → k < 8 → v 802 k = v 809 k)
theorem comes_e (v : V_) : ∃ r, fX6_comesToWhat 800 807 v = some (r, v) ∧ ((r = 1 ∧ CT_ v) ∨ (r = 0 ∧ ¬ CT_ v)) := by
  have start : ∃ s, fX6_comesToWhat 800 807 v = fX6_comesToWhat_19 fu_ 800 807 s 0 v ∧ ((s = 1 ∧ v 800 4 = v 807 4) ∨ (s = 0 ∧ ¬ v 800 4 = v 807 4)) := by
    unfold fX6_comesToWhat
    by_cases c : v 800 4 = v 807 4
    · rw [if_pos c]
      exact ⟨1, rfl, Or.inl ⟨rfl, c⟩⟩
    · rw [if_neg c]
      exact ⟨0, rfl, Or.inr ⟨rfl, c⟩⟩
  obtain ⟨s, e0, hs⟩ := start
  rw [e0]
  by_cases z : v 800 4 = 0
  · obtain ⟨s1, e1, -, h1⟩ := lp_s (σ := Int) (F := fun n i s => fX6_comesToWhat_19 n 800 807 s i v) (K := fun s => fX6_comesToWhat_65 fu_ 800 807 s 0 v) (e := 6) (I := fun i s => 0 ≤ i ∧ ((s = 1 ∧ v 800 4 = v 807 4 ∧ ∀ k, 0 ≤ k → k < i → v 801 k = v 808 k) ∨ (s = 0 ∧ ¬ CT_ v))) (fun n i s h hi => by
      obtain ⟨i0, h⟩ := h
      rw [fX6_comesToWhat_19, if_neg (show ¬ 6 ≤ i by omega), if_pos z]
      rcases h with ⟨rfl, h1, h2⟩ | ⟨rfl, h1⟩
      · rw [if_neg n10_, ck_t (by omega), ck_t (by omega)]
        simp only [Int.reduceAdd]
        by_cases c : v 801 i = v 808 i
        · rw [if_pos c, lt_d, wr_id (by omega)]
          refine ⟨1, rfl, by omega, Or.inl ⟨rfl, h1, fun k k0 k1 => ?_⟩⟩
          rcases (by omega : k < i ∨ k = i) with q | q
          · exact h2 k k0 q
          · rw [q]; exact c
        · rw [if_neg c]
          unfold fX6_comesToWhat_55
          rw [lt_d, wr_id (by omega)]
          exact ⟨0, rfl, by omega, Or.inr ⟨rfl, fun q => c ((q.2 z).1 i i0 hi)⟩⟩
      · rw [if_pos rfl]
        unfold fX6_comesToWhat_55
        rw [lt_d, wr_id (by omega)]
        exact ⟨0, rfl, by omega, Or.inr ⟨rfl, h1⟩⟩) (fun n s _ => by
      rw [fX6_comesToWhat_19, if_pos (by decide)]) 6 fu_ 0 s ⟨by decide, by
        rcases hs with ⟨a, b⟩ | ⟨a, b⟩
        · exact Or.inl ⟨a, b, fun k k0 k1 => by omega⟩
        · exact Or.inr ⟨a, fun q => b q.1⟩⟩ (by decide) (by decide)
    obtain ⟨s2, e2, -, h2⟩ := lp_s (σ := Int) (F := fun n i s => fX6_comesToWhat_65 n 800 807 s i v) (K := fun s => some (s, v)) (e := 8) (I := fun i s => 0 ≤ i ∧ ((s = 1 ∧ v 800 4 = v 807 4 ∧ (∀ k, 0 ≤ k → k < 6 → v 801 k = v 808 k) ∧ ∀ k, 0 ≤ k → k < i → v 802 k = v 809 k) ∨ (s = 0 ∧ ¬ CT_ v))) (fun n i s h hi => by
      obtain ⟨i0, h⟩ := h
      rw [fX6_comesToWhat_65, if_neg (show ¬ 8 ≤ i by omega), if_pos z]
      rcases h with ⟨rfl, h1, h3, h2⟩ | ⟨rfl, h1⟩
      · rw [if_neg n10_, ck_t (by omega), ck_t (by omega)]
        simp only [Int.reduceAdd]
        by_cases c : v 802 i = v 809 i
        · rw [if_pos c, lt_d, wr_id (by omega)]
          refine ⟨1, rfl, by omega, Or.inl ⟨rfl, h1, h3, fun k k0 k1 => ?_⟩⟩
          rcases (by omega : k < i ∨ k = i) with q | q
          · exact h2 k k0 q
          · rw [q]; exact c
        · rw [if_neg c]
          unfold fX6_comesToWhat_101
          rw [lt_d, wr_id (by omega)]
          exact ⟨0, rfl, by omega, Or.inr ⟨rfl, fun q => c ((q.2 z).2 i i0 hi)⟩⟩
      · rw [if_pos rfl]
        unfold fX6_comesToWhat_101
        rw [lt_d, wr_id (by omega)]
        exact ⟨0, rfl, by omega, Or.inr ⟨rfl, h1⟩⟩) (fun n s h => by
      rw [fX6_comesToWhat_65, if_pos (by decide), ck_t (by
        rcases h.2 with ⟨a, -⟩ | ⟨a, -⟩
        · exact Or.inr a
        · exact Or.inl a)]) 8 fu_ 0 s1 ⟨by decide, by
        rcases h1 with ⟨a, b, c⟩ | h1
        · exact Or.inl ⟨a, b, c, fun k k0 k1 => by omega⟩
        · exact Or.inr h1⟩ (by decide) (by decide)
    refine ⟨s2, e1.trans e2, ?_⟩
    rcases h2 with ⟨a, b, c, d⟩ | h2
    · exact Or.inl ⟨a, b, fun _ => ⟨c, d⟩⟩
    · exact Or.inr h2
  · have e : ∀ s, s = 0 ∨ s = 1 → fX6_comesToWhat_19 fu_ 800 807 s 0 v = some (s, v) := fun s hs => by
      obtain ⟨n, hn⟩ := fu_ge 1 (by decide)
      rw [hn]
      show fX6_comesToWhat_19 (n + 1) 800 807 s 0 v = some (s, v)
      rw [fX6_comesToWhat_19, if_neg (by decide), if_neg z, hn]
      show fX6_comesToWhat_65 (n + 1) 800 807 s 0 v = some (s, v)
      rw [fX6_comesToWhat_65, if_neg (by decide), if_neg z, ck_t hs]
    refine ⟨s, e s (by omega), ?_⟩
    rcases hs with ⟨a, b⟩ | ⟨a, b⟩
    · exact Or.inl ⟨a, b, fun q => absurd q z⟩
    · exact Or.inr ⟨a, fun q => b q.1⟩
theorem ragrees_e (u : V_) (x1 : Int) : ∃ w, fX12_agrees_11 fu_ 814 x1 0 u = (bd_ (fX12_runsFast 814 w) fun q4 => if q4.1 = x1 then fX12_agrees_65 fu_ 814 x1 0 q4.2 else some (0, q4.2)) ∧ (∀ a k, a ≠ 870 → w a k = u a k) ∧ (∀ k, 0 ≤ k → k < 6 → w 870 k = u 839 k) ∧ ∀ k, 0 ≤ k → k < 8 → w 870 (6 + k) = u 840 k := by
  obtain ⟨w, e, -, h1, h2⟩ := lp_s (σ := V_) (F := fun n i w => fX12_agrees_11 n 814 x1 i w) (K := fun w => bd_ (fX12_runsFast 814 w) fun q4 => if q4.1 = x1 then fX12_agrees_65 fu_ 814 x1 0 q4.2 else some (0, q4.2)) (e := 14) (I := fun i w => 0 ≤ i ∧ (∀ a k, a ≠ 870 → w a k = u a k) ∧ ∀ k, 0 ≤ k → k < i → w 870 k = if k < 6 then u 839 k else u 840 (k - 6)) (fun n i w h hi => by
    obtain ⟨i0, a1, a2⟩ := h
    rw [fX12_agrees_11, if_neg (show ¬ 14 ≤ i by omega)]
    by_cases c : 6 ≤ i
    · rw [if_pos c, wr_id (show -2147483648 ≤ i - 6 ∧ i - 6 < 2147483648 by omega), ck_t (by omega), ck_t (by omega), lt_d, lt_d, wr_id (by omega)]
      dsimp only [Int.reduceAdd]
      refine ⟨_, rfl, by omega, fun a k h => (up_n (by omega)).trans (a1 a k h), fun k k0 k1 => ?_⟩
      by_cases d : k = i
      · rw [up_s ⟨rfl, d⟩, if_neg (by omega), d]
        exact a1 _ _ (by omega)
      · rw [up_n (by omega)]; exact a2 k k0 (by omega)
    · rw [if_neg c, ck_t (by omega), ck_t (by omega), lt_d, lt_d, wr_id (by omega)]
      dsimp only [Int.reduceAdd]
      refine ⟨_, rfl, by omega, fun a k h => (up_n (by omega)).trans (a1 a k h), fun k k0 k1 => ?_⟩
      by_cases d : k = i
      · rw [up_s ⟨rfl, d⟩, if_pos (by omega), d]
        exact a1 _ _ (by omega)
      · rw [up_n (by omega)]; exact a2 k k0 (by omega)) (fun n w _ => by
    rw [fX12_agrees_11, if_pos (by decide)]) 14 fu_ 0 u ⟨by decide, fun _ _ _ => rfl, fun k k0 k1 => by omega⟩ (by decide) (by decide)
  refine ⟨w, e, h1, fun k k0 k1 => ?_, fun k k0 k1 => ?_⟩
  · rw [h2 k k0 (by omega), if_pos k1]
  · rw [h2 (6 + k) (by omega) (by omega), if_neg (by omega), show 6 + k - 6 = k by omega]
theorem r65_e (v : V_) (x1 : Int) : ∃ r, fX12_agrees_65 fu_ 814 x1 0 v = some (r, v) ∧ ((r = 1 ∧ (x1 = 0 → (∀ k, 0 ≤ k → k < 6 → v 870 k = v 839 k) ∧ ∀ k, 0 ≤ k → k < 8 → v 870 (6 + k) = v 840 k)) ∨ (r = 0 ∧ ¬ (x1 = 0 → (∀ k, 0 ≤ k → k < 6 → v 870 k = v 839 k) ∧ ∀ k, 0 ≤ k → k < 8 → v 870 (6 + k) = v 840 k))) := by
  by_cases z : x1 = 0
  · have l := lp_x (σ := Unit) (F := fun n i _ => fX12_agrees_65 n 814 x1 i v) (K := fun _ => some ((1 : Int), v)) (e := 14) (I := fun i _ => 0 ≤ i ∧ ∀ k, 0 ≤ k → k < i → v 870 k = if k < 6 then v 839 k else v 840 (k - 6)) (Q := fun out => out = some ((0 : Int), v) ∧ ∃ k, (0 ≤ k ∧ k < 14) ∧ ¬ v 870 k = if k < 6 then v 839 k else v 840 (k - 6)) (fun n i _ h hi => by
      obtain ⟨i0, a⟩ := h
      rw [fX12_agrees_65, if_neg (show ¬ 14 ≤ i by omega), if_pos z, ck_t (by omega)]
      unfold fX12_agrees_105
      simp only [Int.reduceAdd]
      by_cases c : 6 ≤ i
      · rw [if_pos c, wr_id (show -2147483648 ≤ i - 6 ∧ i - 6 < 2147483648 by omega), ck_t (by omega)]
        by_cases d : v 870 i = v 840 (i - 6)
        · rw [if_pos d, lt_d, wr_id (by omega)]
          refine Or.inl ⟨(), rfl, by omega, fun k k0 k1 => ?_⟩
          rcases (by omega : k < i ∨ k = i) with q | q
          · exact a k k0 q
          · rw [q, if_neg (by omega)]; exact d
        · rw [if_neg d]
          refine Or.inr ⟨rfl, i, ⟨i0, hi⟩, ?_⟩
          rw [if_neg (by omega)]
          exact d
      · rw [if_neg c, ck_t (by omega)]
        by_cases d : v 870 i = v 839 i
        · rw [if_pos d, lt_d, wr_id (by omega)]
          refine Or.inl ⟨(), rfl, by omega, fun k k0 k1 => ?_⟩
          rcases (by omega : k < i ∨ k = i) with q | q
          · exact a k k0 q
          · rw [q, if_pos (by omega)]; exact d
        · rw [if_neg d]
          refine Or.inr ⟨rfl, i, ⟨i0, hi⟩, ?_⟩
          rw [if_pos (by omega)]
          exact d) (fun n _ _ => by
      rw [fX12_agrees_65, if_pos (by decide)]) 14 fu_ 0 () ⟨by decide, fun k k0 k1 => by omega⟩ (by decide) (by decide)
    rcases l with ⟨-, e, -, a⟩ | ⟨e, k, k0, a⟩
    · refine ⟨1, e, Or.inl ⟨rfl, fun _ => ⟨fun k k0 k1 => ?_, fun k k0 k1 => ?_⟩⟩⟩
      · rw [a k k0 (by omega), if_pos k1]
      · rw [a (6 + k) (by omega) (by omega), if_neg (by omega), show 6 + k - 6 = k by omega]
    · refine ⟨0, e, Or.inr ⟨rfl, fun q => a ?_⟩⟩
      obtain ⟨q1, q2⟩ := q z
      by_cases c : k < 6
      · rw [if_pos c]
        exact q1 k k0.1 c
      · rw [if_neg c]
        have := q2 (k - 6) (by omega) (by omega)
        rw [show 6 + (k - 6) = k by omega] at this
        exact this
  · refine ⟨1, ?_, Or.inl ⟨rfl, fun q => absurd q z⟩⟩
    obtain ⟨n, hn⟩ := fu_ge 1 (by decide)
    rw [hn]
    show fX12_agrees_65 (n + 1) 814 x1 0 v = some (1, v)
    rw [fX12_agrees_65, if_neg (by decide), if_neg z]
theorem agrees_Q {g vc vr : V_} {p : Int} (h : CX_ g p vc vr) : ∃ r vc' vr', fX11_agrees 1 vc = some (r, vc') ∧ fX12_agrees 814 vr = some (r, vr') ∧ QX_ g p vc vr vc' vr' := by
  have h' := h
  obtain ⟨hw, hg, hC, hp, hF, hD, hr, hA⟩ := h'
  unfold fX11_agrees fX12_agrees
  obtain ⟨vc1, e1, hX1, k1, g1⟩ := slow_X h
  obtain ⟨vc2, vr1, e2, ⟨z, e3⟩, hP, hD1, r1, k2, C2, ⟨A2, F1, F2⟩, g2⟩ := fast_X hX1
  have K2 : Ksl_ g vc2 := Ksl_fr k1 (fun k _ _ => F1 _ _ (by omega) (by omega)) g2
  obtain ⟨how1, w1, s1, ⟨s2, s3, -, -, -, -, s4⟩, s5⟩ := K2 vr1 hD1 r1
  obtain ⟨w2, t1, t2, t3, t4⟩ := ragrees_e w1 how1
  have W : ∀ a k, a ≠ 870 → a < 839 ∨ 842 < a → ¬ (a = 814 ∧ 40 ≤ k ∧ k ≤ 46) → w2 a k = vr1 a k := fun a k q q2 q3 => (t2 a k q).trans (s5 a k q2 q3)
  have hD2 : D_ w2 g := D_fr hD1 (W _ _ (by omega) (by omega) (by omega)) (fun a k q q2 => W _ _ (by omega) (by omega) (by omega)) (fun k _ _ => W _ _ (by omega) (by omega) (by omega))
  have hP2 : PL_ g p vc2 w2 := PL_fr hw C2 hD1 hD2 hP (fun _ _ _ _ _ => rfl) (fun _ => rfl) (fun a k q q2 => W _ _ (by omega) (by omega) (by omega)) (W _ _ (by omega) (by omega) (by omega))
  obtain ⟨how2, w3, u1, ⟨u2, u3, -, u4⟩, u5⟩ := k2 w2 hD2 hP2 (fun k k0 k1 => (r1 k k0 k1).trans (W _ _ (by omega) (by omega) (by omega)).symm)
  have A3 : CA_ g p vc2 w2 := CA_r hw C2 A2 hD2 (W _ _ (by omega) (by omega) (by omega)) (fun a k q q2 => W _ _ (by omega) (by omega) (by omega)) (W _ _ (by omega) (by omega) (by omega))
  obtain ⟨b1, b2⟩ := behind_f hw C2 hD2 A3 u5
  have Q2w : Q2_ vr w3 := fun a k q q2 => (b2 a k q q2).trans ((W a k (by omega) (by omega) (by omega)).trans (F2 a k q q2))
  obtain ⟨r, c1, c2⟩ := comes_e vc2
  rw [e1, bd_s, e3, bd_s]
  try dsimp only
  rw [e2, bd_s, s1, bd_s]
  try dsimp only
  rw [c1, bd_s, t1, u1, bd_s]
  try dsimp only
  have q : ∀ y z : Int, y = z → ∃ r vc' vr', (some (y, vc2) : Option (Int × V_)) = some (r, vc') ∧ (some (z, w3) : Option (Int × V_)) = some (r, vr') ∧ QX_ g p vc vr vc' vr' := fun y z c => ⟨z, vc2, w3, by rw [c], rfl, b1, Q1_tr g1 F1, Q2w⟩
  by_cases hh : how2 = how1
  · rw [if_pos hh]
    obtain ⟨r2, d1, d2⟩ := r65_e w3 how1
    rw [d1]
    have E8 : ∀ k, w3 870 k = w2 870 k := fun k => u5 _ _ (by omega) (by omega) (by omega)
    have same : CT_ vc2 ↔ (how1 = 0 → (∀ k, 0 ≤ k → k < 6 → w3 870 k = w3 839 k) ∧ ∀ k, 0 ≤ k → k < 8 → w3 870 (6 + k) = w3 840 k) := by
      unfold CT_
      rw [s2, u2]
      constructor
      · rintro ⟨-, q⟩ z
        obtain ⟨q1, q2⟩ := q z
        have ra := s4 z
        have rb := u4 (hh.trans z)
        refine ⟨fun k k0 k1 => ?_, fun k k0 k1 => ?_⟩
        · rw [E8, t3 k k0 k1, ← (ra.1 k k0 (by omega)).1, ← (rb.1 k k0 (by omega)).1]
          exact q1 k k0 k1
        · rw [E8, t4 k k0 k1, ← (ra.2 k k0 k1).1, ← (rb.2 k k0 k1).1]
          exact q2 k k0 k1
      · intro q
        refine ⟨hh.symm, fun z => ?_⟩
        obtain ⟨q1, q2⟩ := q z
        have ra := s4 z
        have rb := u4 (hh.trans z)
        refine ⟨fun k k0 k1 => ?_, fun k k0 k1 => ?_⟩
        · have y := q1 k k0 k1
          rw [E8, t3 k k0 k1, ← (ra.1 k k0 (by omega)).1, ← (rb.1 k k0 (by omega)).1] at y
          exact y
        · have y := q2 k k0 k1
          rw [E8, t4 k k0 k1, ← (ra.2 k k0 k1).1, ← (rb.2 k k0 k1).1] at y
          exact y
    rcases c2 with ⟨rfl, c2⟩ | ⟨rfl, c2⟩ <;> rcases d2 with ⟨rfl, d2⟩ | ⟨rfl, d2⟩
    · rw [if_neg n10_]
      exact q _ _ rfl
    · exact absurd (same.1 c2) d2
    · exact absurd (same.2 d2) c2
    · rw [if_pos rfl]
      exact q _ _ rfl
  · rw [if_neg hh]
    have r0 : r = 0 := by
      rcases c2 with ⟨-, c2⟩ | ⟨c2, -⟩
      · have y := c2.1
        rw [s2, u2] at y
        exact absurd y.symm hh
      · exact c2
    rw [if_pos r0]
    exact q _ _ rfl
