/-! layer 2: runs begin -/
theorem cbegin_e {x0 p : Int} (hx : x0 = 800 ∨ x0 = 807) (hp : p = 12 ∨ p = 76) (v : V_) : ∃ w, fX6_begin x0 p 140 v = some (0, w) ∧ Fa_ x0 v w ∧ (∀ k, 0 ≤ k → k < 12 → w (x0 + 1) k = if k < 6 then v 141 k else 0) ∧ (∀ k, 0 ≤ k → k < 8 → w (x0 + 2) k = v 141 (6 + k) ∧ w (x0 + 3) k = 0) ∧ (∀ k, 0 ≤ k → k < 16 → w (x0 + 4) k = 0) ∧ w x0 4 = 0 ∧ w x0 5 = 0 ∧ w x0 6 = 0 ∧ w x0 7 = 0 ∧ w x0 8 = 0 ∧ w x0 9 = if v p 0 ≤ 0 then -1 else 0 := by
  unfold fX6_begin
  rw [lt_d]
  have l1 := lp_cp (F := fun n i v => fX6_begin_10 n x0 p 140 i v) (K := fun v => fX6_begin_35 fu_ x0 p 140 0 v) (P := fun _ => True) (src := 141) (so := 0) (dst := x0 + 1) (d0 := 0) (e := 6) (fun _ _ _ _ => trivial) (fun n i v _ h0 h1 => by
    show fX6_begin_10 (n + 1) x0 p 140 i v = _
    rw [fX6_begin_10, if_neg (by omega)]
    unfold fX7_register
    rw [ck_t (by omega), bd_s, ck_t (by omega), lt_d, lt_d, wr_id (by omega), Int.zero_add]
    rfl) (fun n v _ => by
    show fX6_begin_10 (n + 1) x0 p 140 6 v = _
    rw [fX6_begin_10, if_pos (by decide)]) (Or.inl (by omega)) 6 fu_ 0 (fl_ v (x0 + 1) 12 0) trivial (by decide) (by decide) (by decide)
  have l2 := lp_cp (F := fun n i v => fX6_begin_35 n x0 p 140 i v) (K := fun v => fX6_begin_35 1 x0 p 140 8 v) (P := fun _ => True) (src := 141) (so := 6) (dst := x0 + 2) (d0 := 0) (e := 8) (fun _ _ _ _ => trivial) (fun n i v _ h0 h1 => by
    show fX6_begin_35 (n + 1) x0 p 140 i v = _
    rw [fX6_begin_35, if_neg (by omega)]
    unfold fX7_cellAt
    rw [wr_id (by omega), ck_t (by omega), bd_s, ck_t (by omega), lt_d, lt_d, wr_id (by omega), Int.zero_add]
    rfl) (fun n v _ => by
    show fX6_begin_35 (n + 1) x0 p 140 8 v = fX6_begin_35 1 x0 p 140 8 v
    rw [fX6_begin_35, fX6_begin_35, if_pos (by decide), if_pos (by decide)]) (Or.inl (by omega)) 8 fu_ 0 (cp_ (fl_ v (x0 + 1) 12 0) 141 (0 + 0) (x0 + 1) (0 + 0) 6) trivial (by decide) (by decide) (by decide)
  rw [show fX6_begin_10 fu_ x0 p 140 0 (fl_ v (x0 + 1) 12 0) = fX6_begin_35 1 x0 p 140 8 (cp_ (cp_ (fl_ v (x0 + 1) 12 0) 141 (0 + 0) (x0 + 1) (0 + 0) 6) 141 (6 + 0) (x0 + 2) (0 + 0) 8) from l1.trans l2]
  clear l1 l2
  have fl_i : ∀ {v : V_} {a n x b j : Int}, b = a ∧ 0 ≤ j ∧ j < n → fl_ v a n x b j = x := fun h => if_pos h
  have fl_o : ∀ {v : V_} {a n x b j : Int}, ¬ (b = a ∧ 0 ≤ j ∧ j < n) → fl_ v a n x b j = v b j := fun h => if_neg h
  try dsimp only
  generalize ew : cp_ (cp_ (fl_ v (x0 + 1) 12 0) 141 (0 + 0) (x0 + 1) (0 + 0) 6) 141 (6 + 0) (x0 + 2) (0 + 0) 8 = w
  have w0 : ∀ a k, a ≠ x0 + 1 → a ≠ x0 + 2 → w a k = v a k := fun a k h h2 => by rw [← ew, cp_o (by omega), cp_o (by omega), fl_o (by omega)]
  have w1 : ∀ k, 0 ≤ k → k < 12 → w (x0 + 1) k = if k < 6 then v 141 k else 0 := fun k k0 k1 => by
    rw [← ew, cp_o (by omega)]
    by_cases c : k < 6
    · rw [if_pos c, cp_i ⟨rfl, by omega, by omega⟩, fl_o (by omega)]
      congr 1
      omega
    · rw [if_neg c, cp_o (by omega), fl_i ⟨rfl, k0, k1⟩]
  have w2 : ∀ k, 0 ≤ k → k < 8 → w (x0 + 2) k = v 141 (6 + k) := fun k k0 k1 => by
    rw [← ew, cp_i ⟨rfl, by omega, by omega⟩, cp_o (by omega), fl_o (by omega)]
    congr 1
    omega
  clear ew
  rw [fX6_begin_35, if_pos (by decide), lt_d, lt_d, lt_d, lt_d, lt_d, lt_d, lt_d]
  generalize ez : up_ (up_ (up_ (up_ (up_ (fl_ (fl_ w (x0 + 3) 8 0) (x0 + 4) 16 0) x0 4 0) x0 5 0) x0 6 0) x0 7 0) x0 8 0 = z
  have z0 : ∀ a k, a ≠ x0 → a ≠ x0 + 3 → a ≠ x0 + 4 → z a k = w a k := fun a k h h2 h3 => by rw [← ez, up_n (by omega), up_n (by omega), up_n (by omega), up_n (by omega), up_n (by omega), fl_o (by omega), fl_o (by omega)]
  have z3 : ∀ k, 0 ≤ k → k < 8 → z (x0 + 3) k = 0 := fun k k0 k1 => by rw [← ez, up_n (by omega), up_n (by omega), up_n (by omega), up_n (by omega), up_n (by omega), fl_o (by omega), fl_i ⟨rfl, k0, k1⟩]
  have z4 : ∀ k, 0 ≤ k → k < 16 → z (x0 + 4) k = 0 := fun k k0 k1 => by rw [← ez, up_n (by omega), up_n (by omega), up_n (by omega), up_n (by omega), up_n (by omega), fl_i ⟨rfl, k0, k1⟩]
  have zz : z x0 4 = 0 ∧ z x0 5 = 0 ∧ z x0 6 = 0 ∧ z x0 7 = 0 ∧ z x0 8 = 0 := by
    rw [← ez]
    simp (disch := omega) only [up_s, up_n, and_self]
  clear ez
  have ep : z p 0 = v p 0 := by rw [z0 _ _ (by omega) (by omega) (by omega), w0 _ _ (by omega) (by omega)]
  rw [ep]
  have fin : ∀ y : Int, ∃ u, some ((0 : Int), up_ z x0 9 y) = some (0, u) ∧ Fa_ x0 v u ∧ (∀ k, 0 ≤ k → k < 12 → u (x0 + 1) k = if k < 6 then v 141 k else 0) ∧ (∀ k, 0 ≤ k → k < 8 → u (x0 + 2) k = v 141 (6 + k) ∧ u (x0 + 3) k = 0) ∧ (∀ k, 0 ≤ k → k < 16 → u (x0 + 4) k = 0) ∧ u x0 4 = 0 ∧ u x0 5 = 0 ∧ u x0 6 = 0 ∧ u x0 7 = 0 ∧ u x0 8 = 0 ∧ u x0 9 = y := fun y => by
    refine ⟨_, rfl, fun a k h => ?_, fun k k0 k1 => ?_, fun k k0 k1 => ⟨?_, ?_⟩, fun k k0 k1 => ?_, ?_, ?_, ?_, ?_, ?_, up_s ⟨rfl, rfl⟩⟩
    · rw [up_n (by omega), z0 _ _ (by omega) (by omega) (by omega), w0 _ _ (by omega) (by omega)]
    · rw [up_n (by omega), z0 _ _ (by omega) (by omega) (by omega)]; exact w1 k k0 k1
    · rw [up_n (by omega), z0 _ _ (by omega) (by omega) (by omega)]; exact w2 k k0 k1
    · rw [up_n (by omega)]; exact z3 k k0 k1
    · rw [up_n (by omega)]; exact z4 k k0 k1
    · rw [up_n (by omega)]; exact zz.1
    · rw [up_n (by omega)]; exact zz.2.1
    · rw [up_n (by omega)]; exact zz.2.2.1
    · rw [up_n (by omega)]; exact zz.2.2.2.1
    · rw [up_n (by omega)]; exact zz.2.2.2.2
  by_cases c : v p 0 ≤ 0
  · rw [if_pos c, if_pos c, lt_d]
    exact fin _
  · rw [if_neg c, if_neg c, lt_d]
    exact fin _
theorem rfrom_e (v : V_) : ∃ w, fX12_runsFrom 814 v = some (0, w) ∧ Fb_ v w ∧ (∀ k, 0 ≤ k → k < 12 → w 839 k = if k < 6 then v 838 k else 0) ∧ (∀ k, 0 ≤ k → k < 8 → w 840 k = v 838 (6 + k) ∧ w 841 k = 0) ∧ (∀ k, 0 ≤ k → k < 16 → w 842 k = 0) ∧ w 814 45 = 0 ∧ w 814 46 = 0 := by
  unfold fX12_runsFrom
  obtain ⟨v1, e1, -, a1, b1⟩ := lp_s (σ := V_) (F := fun n i v => fX12_runsFrom_2 n 814 i v) (K := fun v => fX12_runsFrom_38 fu_ 814 0 v) (e := 12) (I := fun i u => 0 ≤ i ∧ (∀ a k, a ≠ 839 → u a k = v a k) ∧ ∀ k, 0 ≤ k → k < i → u 839 k = if k < 6 then v 838 k else 0) (fun n i u h hi => by
    obtain ⟨h0, h1, h2⟩ := h
    try dsimp only
    rw [fX12_runsFrom_2, if_neg (by omega)]
    by_cases c : 6 ≤ i
    · rw [if_pos c, ck_t (by omega), lt_d, lt_d, wr_id (by omega)]
      dsimp only [Int.reduceAdd]
      refine ⟨_, rfl, by omega, fun a k h => (up_n (by omega)).trans (h1 a k h), fun k k0 k1 => ?_⟩
      by_cases e : k = i
      · rw [up_s ⟨rfl, e⟩, if_neg (by omega)]
      · rw [up_n (by omega)]; exact h2 k k0 (by omega)
    · rw [if_neg c, ck_t (by omega), ck_t (by omega), lt_d, lt_d, wr_id (by omega)]
      dsimp only [Int.reduceAdd]
      refine ⟨_, rfl, by omega, fun a k h => (up_n (by omega)).trans (h1 a k h), fun k k0 k1 => ?_⟩
      by_cases e : k = i
      · rw [up_s ⟨rfl, e⟩, if_pos (by omega), e]; exact h1 _ _ (by omega)
      · rw [up_n (by omega)]; exact h2 k k0 (by omega)) (fun n u _ => by
    try dsimp only
    rw [fX12_runsFrom_2, if_pos (by decide)]) 12 fu_ 0 v ⟨by decide, fun _ _ _ => rfl, fun k k0 k1 => by omega⟩ (by decide) (by decide)
  obtain ⟨v2, e2, -, a2, c2, b2⟩ := lp_s (σ := V_) (F := fun n i v => fX12_runsFrom_38 n 814 i v) (K := fun v => fX12_runsFrom_74 fu_ 814 0 v) (e := 8) (I := fun i u => 0 ≤ i ∧ (∀ a k, a ≠ 839 → a ≠ 840 → a ≠ 841 → u a k = v a k) ∧ (∀ k, u 839 k = v1 839 k) ∧ ∀ k, 0 ≤ k → k < i → u 840 k = v 838 (6 + k) ∧ u 841 k = 0) (fun n i u h hi => by
    obtain ⟨h0, h1, h3, h2⟩ := h
    try dsimp only
    rw [fX12_runsFrom_38, if_neg (by omega), wr_id (by omega), ck_t (by omega), ck_t (by omega), lt_d, ck_t (by omega), lt_d, lt_d, wr_id (by omega)]
    dsimp only [Int.reduceAdd]
    refine ⟨_, rfl, by omega, fun a k h h4 h5 => ?_, fun k => ?_, fun k k0 k1 => ⟨?_, ?_⟩⟩
    · rw [up_n (by omega), up_n (by omega)]; exact h1 a k h h4 h5
    · rw [up_n (by omega), up_n (by omega)]; exact h3 k
    · rw [up_n (by omega)]
      by_cases e : k = i
      · rw [up_s ⟨rfl, e⟩, e]; exact h1 _ _ (by omega) (by omega) (by omega)
      · rw [up_n (by omega)]; exact (h2 k k0 (by omega)).1
    · by_cases e : k = i
      · rw [up_s ⟨rfl, e⟩]
      · rw [up_n (by omega), up_n (by omega)]; exact (h2 k k0 (by omega)).2) (fun n u _ => by
    try dsimp only
    rw [fX12_runsFrom_38, if_pos (by decide)]) 8 fu_ 0 v1 ⟨by decide, fun a k h _ _ => a1 a k h, fun _ => rfl, fun k k0 k1 => by omega⟩ (by decide) (by decide)
  obtain ⟨v3, e3, -, a3, b3⟩ := lp_s (σ := V_) (F := fun n i v => fX12_runsFrom_74 n 814 i v) (K := fun v => some (0, up_ (up_ v 814 45 0) 814 46 0)) (e := 16) (I := fun i u => 0 ≤ i ∧ (∀ a k, a ≠ 842 → u a k = v2 a k) ∧ ∀ k, 0 ≤ k → k < i → u 842 k = 0) (fun n i u h hi => by
    obtain ⟨h0, h1, h2⟩ := h
    try dsimp only
    rw [fX12_runsFrom_74, if_neg (by omega), ck_t (by omega), lt_d, lt_d, wr_id (by omega)]
    dsimp only [Int.reduceAdd]
    refine ⟨_, rfl, by omega, fun a k h => (up_n (by omega)).trans (h1 a k h), fun k k0 k1 => ?_⟩
    by_cases e : k = i
    · rw [up_s ⟨rfl, e⟩]
    · rw [up_n (by omega)]; exact h2 k k0 (by omega)) (fun n u _ => by
    try dsimp only
    rw [fX12_runsFrom_74, if_pos (by decide), lt_d, lt_d]) 16 fu_ 0 v2 ⟨by decide, fun _ _ _ => rfl, fun k k0 k1 => by omega⟩ (by decide) (by decide)
  refine ⟨_, e1.trans (e2.trans e3), fun a k h h2 => ?_, fun k k0 k1 => ?_, fun k k0 k1 => ⟨?_, ?_⟩, fun k k0 k1 => ?_, ?_, ?_⟩
  · rw [up_n (by omega), up_n (by omega), a3 _ _ (by omega), a2 _ _ (by omega) (by omega) (by omega)]
  · rw [up_n (by omega), up_n (by omega), a3 _ _ (by omega), c2]; exact b1 k k0 k1
  · rw [up_n (by omega), up_n (by omega), a3 _ _ (by omega)]; exact (b2 k k0 k1).1
  · rw [up_n (by omega), up_n (by omega), a3 _ _ (by omega)]; exact (b2 k k0 k1).2
  · rw [up_n (by omega), up_n (by omega)]; exact b3 k k0 k1
  · rw [up_n (by omega), up_s ⟨rfl, rfl⟩]
  · exact up_s ⟨rfl, rfl⟩
theorem begin_T {x0 : Int} {vc vr wc wr : V_} (hr : ∀ k, 0 ≤ k → k < 14 → vc 141 k = vr 838 k ∧ iR_ (vr 838 k)) (h1 : ∀ k, 0 ≤ k → k < 12 → wc (x0 + 1) k = if k < 6 then vc 141 k else 0) (h2 : ∀ k, 0 ≤ k → k < 8 → wc (x0 + 2) k = vc 141 (6 + k)) (h3 : ∀ k, 0 ≤ k → k < 12 → wr 839 k = if k < 6 then vr 838 k else 0) (h4 : ∀ k, 0 ≤ k → k < 8 → wr 840 k = vr 838 (6 + k)) : RC_ wc x0 wr := by
  refine ⟨fun k k0 k1 => ?_, fun k k0 k1 => ?_⟩
  · rw [h1 k k0 k1, h3 k k0 k1]
    by_cases c : k < 6
    · rw [if_pos c, if_pos c]
      exact hr k k0 (by omega)
    · rw [if_neg c, if_neg c]
      exact ⟨rfl, ⟨by decide, by decide⟩⟩
  · rw [h2 k k0 k1, h4 k k0 k1]
    exact hr (6 + k) (by omega) (by omega)
theorem slow_T {x0 p : Int} {g vc vr : V_} (hx : x0 = 800 ∨ x0 = 807) (hw : WF_ g) (hC : C_ vc p g) (hD : D_ vr g) (hr : ∀ k, 0 ≤ k → k < 14 → vc 141 k = vr 838 k ∧ iR_ (vr 838 k)) : ∃ vc' vr' how, fX6_goSlow x0 p 140 vc = some (0, vc') ∧ fX12_runsSlow 814 vr = some (how, vr') ∧ SO_ vc' x0 vr' how ∧ Fa_ x0 vc vc' ∧ Fb_ vr vr' := by
  obtain ⟨w, e1, f1, a1, a2, a3, a4, a5, a6, a7, a8, a9⟩ := cbegin_e hx hC.1 vc
  obtain ⟨z, e2, f2, b1, b2, b3, b4, b5⟩ := rfrom_e vr
  unfold fX6_goSlow fX12_runsSlow
  rw [e1, bd_s, e2, bd_s]
  have hn := hw.1
  have hC1 : C_ w p g := C_fr hw hC (fun a k a0 a1 => f1 _ _ (by omega)) (fun k _ _ => f1 _ _ (by omega))
  have hD1 : D_ z g := D_fr hD (f2 _ _ (by omega) (by omega)) (fun a k a0 a1 => f2 _ _ (by omega) (by omega)) (fun k _ _ => f2 _ _ (by omega) (by omega))
  have hR : RC_ w x0 z := begin_T hr a1 (fun k k0 k1 => (a2 k k0 k1).1) b1 (fun k k0 k1 => (b2 k k0 k1).1)
  have key : ∀ b, NX_ (g 0 0) (w x0 9) b → ∃ vc' vr' how, fX6_goSlow_8 fu_ x0 p 140 0 w = some (0, vc') ∧ fX12_runsSlow_23 fu_ 814 b z = some (how, vr') ∧ SO_ vc' x0 vr' how ∧ Fa_ x0 vc vc' ∧ Fb_ vr vr' := fun b hN => by
    obtain ⟨vc', vr', how, u1, u2, u3, u4, u5⟩ := slow_loop hx hw 200 fu_ fu_ 0 b w z hC1 hD1 hR (a5.trans b4.symm) a6 b5 a4 hN (fun k k0 k1 => by rw [(a2 k k0 k1).2, (b2 k k0 k1).2]; decide) (fun k k0 k1 => by rw [a3 k k0 k1, b3 k k0 k1]; decide) (by decide) (by decide) (by decide) (by decide)
    exact ⟨vc', vr', how, u1, u2, u3, fun a k h => (u4 a k h).trans (f1 a k h), fun a k h h2 => (u5 a k h h2).trans (f2 a k h h2)⟩
  have hs := hD1.1
  have hb0 := hD1.2.1
  try dsimp only
  rw [ck_t (by omega), show (814 + 9 : Int) = 823 from rfl]
  have hp0 := hC.2.1
  by_cases c : g 0 0 = 0
  · rw [if_pos (hb0.trans c)]
    exact key (-2) (Or.inl ⟨by rw [a9, if_pos (by omega)], by decide, by decide⟩)
  · rw [if_neg (by rw [hb0]; exact c)]
    exact key 0 (Or.inr (by rw [a9, if_neg (by omega)]; omega))
