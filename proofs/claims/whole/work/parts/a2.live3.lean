/-! layer 2: live registers, as the reference finds them -/
theorem rbit_e (a : Int) (v : V_) : fX12_bitOf a v = some (lb_ a, v) := by
  unfold fX12_bitOf lb_
  by_cases c : a < 6
  · rw [if_neg (by omega), if_pos c]
  · rw [if_pos (by omega), if_neg c]
section RLIVE
variable {v g : V_} {b : Int}
theorem rlines_e (hw : WF_ g) (h : D_ v g) (hb : 0 ≤ b ∧ b < g 0 0) : ∀ (d n : Nat) (s : Int), (d : Int) ≤ g 1 b → d < n → fX12_liveAbove_71 n 814 b s (d - 1) v = some (ll_ g b d s, v) := by
  have hn := hw.1
  obtain ⟨hl, -, hln⟩ := hw.2 b hb.1 hb.2
  have hs := h.1
  intro d
  induction d with
  | zero =>
    intro n s hd hn0
    obtain ⟨n, rfl⟩ : ∃ k, n = k + 1 := ⟨n - 1, by omega⟩
    rw [fX12_liveAbove_71, if_pos (by omega)]
    rfl
  | succ d ih =>
    intro n s hd hn0
    obtain ⟨n, rfl⟩ : ∃ k, n = k + 1 := ⟨n - 1, by omega⟩
    have t := fun z => ih n z (by omega) (by omega)
    have dd := h.2.2.2.1 (6 * b + d) (by omega) (by omega)
    rw [fX12_liveAbove_71, if_neg (by omega), show ((d + 1 : Nat) : Int) - 1 = d by omega, lineAt_e h (by omega) (by omega), bd_s]
    try dsimp only
    rw [ck_t (by omega), ck_t (by omega)]
    simp only [show (814 + 15 : Int) = 829 from rfl, dd]
    unfold fX12_liveAbove_111
    have fin : ∀ z, (ck_ (0 ≤ 48 * v 814 18 + (6 * b + d) ∧ 48 * v 814 18 + (6 * b + d) < 96) (bd_ (fX12_bitOf (v (814 + 16) (48 * v 814 18 + (6 * b + d))) v) fun q17 => ck_ (0 ≤ 48 * v 814 18 + (6 * b + d) ∧ 48 * v 814 18 + (6 * b + d) < 96) (bd_ (fX12_bitOf (q17.2 (814 + 17) (48 * v 814 18 + (6 * b + d))) q17.2) fun q20 => lt_ (bO_ z (bO_ q17.1 q20.1)) fun y21 => lt_ (wr_ (d + (-1))) fun y22 => fX12_liveAbove_71 n 814 b y21 y22 q20.2))) = some (ll_ g b d (bO_ z (bO_ (lb_ (g 5 (6 * b + d))) (lb_ (g 6 (6 * b + d))))), v) := fun z => by
      simp only [Int.reduceAdd, dd]
      rw [ck_t (by omega), rbit_e, bd_s, ck_t (by omega)]
      dsimp only
      rw [dd.2.2.2.2, rbit_e, bd_s, lt_d, lt_d]
      dsimp only
      rw [wr_id (by omega), show (d : Int) + (-1) = d - 1 by omega, t]
    by_cases c : g 4 (6 * b + d) < 0
    · rw [if_pos c]
      refine (fin s).trans ?_
      simp only [ll_, if_pos c]
    · rw [if_neg c, lt_d]
      refine (fin _).trans ?_
      simp only [ll_, if_neg c]
theorem rabove_e (hw : WF_ g) (h : D_ v g) (hb : 0 ≤ b ∧ b < g 0 0) (s : Int) : fX12_liveAbove 814 b s v = some (ll_ g b (g 1 b).toNat (if g 7 b = 2 then 63 else if g 7 b = 1 then bO_ s (bO_ (lb_ (g 8 b)) (lb_ (g 9 b))) else s), v) := by
  have hn := hw.1
  have hs := h.1
  obtain ⟨hl, he, hln⟩ := hw.2 b hb.1 hb.2
  have hve := (EN_va he).1
  have dd := h.2.2.1 b (by omega) (by omega)
  have K : ∀ s, fX12_liveAbove_62 814 b s v = some (ll_ g b (g 1 b).toNat s, v) := fun s => by
    have t := rlines_e hw h hb (g 1 b).toNat fu_ s (by omega) (by unfold fu_; omega)
    rw [show ((g 1 b).toNat : Int) = g 1 b by omega] at t
    unfold fX12_liveAbove_62
    rw [linesOf_e h (by omega), bd_s, lt_d]
    try dsimp only
    rw [wr_id (by omega)]
    exact t
  unfold fX12_liveAbove fX12_liveAbove_26
  rw [wr_id (show -2147483648 ≤ 8 * v 814 18 ∧ 8 * v 814 18 < 2147483648 by omega), wr_id (show -2147483648 ≤ 8 * v 814 18 + b ∧ 8 * v 814 18 + b < 2147483648 by omega), lt_d]
  simp only [Int.reduceAdd, dd]
  rw [ck_t (by omega), ck_t (by omega), ck_t (by omega), ck_t (by omega)]
  by_cases c2 : g 7 b = 2
  · rw [if_pos c2, if_neg (by omega), if_pos c2, K]
  · rw [if_neg c2, if_neg c2]
    by_cases c1 : g 7 b = 1
    · rw [if_pos c1, if_pos c1, rbit_e, bd_s, ck_t (by omega)]
      try dsimp only
      rw [dd.2.2.2, rbit_e, bd_s, lt_d, K, ck_t (by omega)]
    · rw [if_neg c1, if_neg c1, K]
theorem rblock_e (hw : WF_ g) (h : D_ v g) (hL : Lr_ g (v 843)) (hb : 0 ≤ b ∧ b < g 0 0) (k23 : Int → Int → V_ → Option (Int × V_)) (k31 : Int → Int → Int → V_ → Option (Int × V_)) (z : Int) : fX12_fillsLive_49 k23 k31 fu_ 814 z b 0 0 v = fX12_fillsLive_101 k23 k31 814 (if lw_ g (v 843) b = v 843 b then z else 1) b (lw_ g (v 843) b) v := by
  have hn := hw.1
  have hs := h.1
  obtain ⟨hl, he, hln⟩ := hw.2 b hb.1 hb.2
  have hve := (EN_va he).1
  have way : ∀ (n : Nat) (s w t : Int), 0 ≤ w ∧ w < 2 → g 10 (2 * b + w) = t → (0 ≤ t ∧ t < g 0 0) → ¬ (if g 7 b = 2 then (0 : Int) else g 7 b + 1) ≤ w → fX12_fillsLive_49 k23 k31 (n + 1) 814 z b s w v = fX12_fillsLive_49 k23 k31 n 814 z b (bO_ s (v 843 t)) (w + 1) v := fun n s w t w0 et ht hc => by
    rw [fX12_fillsLive_49, waysOf_e h (by omega) hve, bd_s]
    try dsimp only
    rw [if_neg hc, wayTo_e h (by omega) w0, bd_s]
    try dsimp only
    rw [et, ck_t (by omega), lt_d, lt_d, wr_id (by omega)]
    rfl
  have ende : ∀ (n : Nat) (s w : Int), (if g 7 b = 2 then (0 : Int) else g 7 b + 1) ≤ w → (ll_ g b (g 1 b).toNat (if g 7 b = 2 then 63 else if g 7 b = 1 then bO_ s (bO_ (lb_ (g 8 b)) (lb_ (g 9 b))) else s) = lw_ g (v 843) b) → fX12_fillsLive_49 k23 k31 (n + 1) 814 z b s w v = fX12_fillsLive_101 k23 k31 814 (if lw_ g (v 843) b = v 843 b then z else 1) b (lw_ g (v 843) b) v := fun n s w hc hlw => by
    rw [fX12_fillsLive_49, waysOf_e h (by omega) hve, bd_s]
    try dsimp only
    rw [if_pos hc, rabove_e hw h hb, bd_s, ck_t (by omega)]
    try dsimp only
    rw [hlw, show (814 + 29 : Int) = 843 from rfl]
    by_cases c : lw_ g (v 843) b = v 843 b
    · rw [if_pos c, if_pos c]
    · rw [if_neg c, if_neg c]
  obtain ⟨N, hN⟩ := fu_ge 3 (by decide)
  rw [hN]
  rcases he with ⟨q0, q1, q2, q3, q4, q5⟩ | ⟨q0, q1, q2, q3, q4, q5, q6⟩ | ⟨q0, q1, q2, q3, q4⟩
  · have lr := hL _ q3 q4
    unfold r6_ at lr
    rw [way (N + 2) 0 0 _ (by decide) rfl (by rw [Int.add_zero]; exact ⟨q3, q4⟩) (by rw [if_neg (by omega)]; omega), Int.add_zero, bO_0l (by omega)]
    refine ende (N + 1) _ _ (by rw [if_neg (by omega)]; omega) ?_
    unfold lw_ lz_
    rw [if_neg (by omega), if_neg (by omega), if_neg (by omega), if_neg (by omega)]
  · have l1 := hL _ q3 q4
    have l2 := hL _ q5 q6
    unfold r6_ at l1 l2
    rw [way (N + 2) 0 0 _ (by decide) rfl (by rw [Int.add_zero]; exact ⟨q3, q4⟩) (by rw [if_neg (by omega)]; omega), Int.add_zero]
    rw [way (N + 1) _ (0 + 1) _ (by decide) rfl (by rw [Int.zero_add]; exact ⟨q5, q6⟩) (by rw [if_neg (by omega)]; omega), Int.zero_add]
    refine ende N _ _ (by rw [if_neg (by omega)]; omega) ?_
    unfold lw_ lz_
    rw [if_neg (by omega), if_pos q0, if_neg (by omega), if_pos q0, bO_swap l1 l2 (lb_64 q1) (lb_64 q2)]
  · refine ende (N + 2) _ _ (by rw [if_pos q0]; decide) ?_
    unfold lw_ lz_
    rw [if_pos q0, if_pos q0]
end RLIVE
theorem rpass_e {g : V_} (hw : WF_ g) (k : Int → Int → V_ → Option (Int × V_)) (v0 : V_) (hD : D_ v0 g) (hL : Lv_ g (v0 843)) : ∃ (t : Int × V_), fX12_fillsLive_31 k fu_ 814 0 0 v0 = k 814 t.1 t.2 ∧ (∀ a j, a ≠ 843 → t.2 a j = v0 a j) ∧ Lv_ g (t.2 843) ∧ ((t.1 = 0 ∧ LF_ g (t.2 843)) ∨ (t.1 = 1 ∧ tt_ (v0 843) + 1 ≤ tt_ (t.2 843))) := by
  have hn := hw.1
  obtain ⟨t, e, h1, h2, h3⟩ := lp_s (σ := Int × V_) (F := fun n i s => fX12_fillsLive_31 k n 814 s.1 i s.2) (K := fun s => k 814 s.1 s.2) (e := g 0 0) (I := fun i s => (∀ a j, a ≠ 843 → s.2 a j = v0 a j) ∧ Lv_ g (s.2 843) ∧ ((s.1 = 0 ∧ (∀ c, s.2 843 c = v0 843 c) ∧ ∀ c, 0 ≤ c → c < i → lw_ g (s.2 843) c = s.2 843 c) ∨ (s.1 = 1 ∧ tt_ (v0 843) + 1 ≤ tt_ (s.2 843))) ∧ 0 ≤ i) (fun n i s h hi => by
    obtain ⟨a1, a2, a3, a4⟩ := h
    try dsimp only
    have hD1 : D_ s.2 g := D_fr hD (a1 _ _ (by omega)) (fun a k a0 b0 => a1 _ _ (by omega)) (fun k _ _ => a1 _ _ (by omega))
    have hs := hD1.1
    have hb : 0 ≤ i ∧ i < g 0 0 := ⟨a4, hi⟩
    rw [fX12_fillsLive_31, ck_t (by omega), show (814 + 9 : Int) = 823 from rfl, hD1.2.1, if_neg (by omega), rblock_e hw hD1 a2.1 hb]
    unfold fX12_fillsLive_101
    rw [ck_t (by omega), lt_d, lt_d, wr_id (by omega), show (814 + 29 : Int) = 843 from rfl]
    have eM : ∀ c, up_ s.2 843 i (lw_ g (s.2 843) i) 843 c = if c = i then lw_ g (s.2 843) i else s.2 843 c := fun c => by
      by_cases e : c = i
      · rw [up_s ⟨rfl, e⟩, if_pos e]
      · rw [up_n (by omega), if_neg e]
    obtain ⟨b1, b2, b3, b4⟩ := Lv_step hw a2 hb (M := up_ s.2 843 i (lw_ g (s.2 843) i) 843) eM
    refine ⟨(if lw_ g (s.2 843) i = s.2 843 i then s.1 else 1, up_ s.2 843 i (lw_ g (s.2 843) i)), rfl, fun a j h => (up_n (by omega)).trans (a1 a j h), b1, ?_, by omega⟩
    try dsimp only
    rcases a3 with ⟨c1, c2, c3⟩ | ⟨c1, c3⟩
    · by_cases ec : lw_ g (s.2 843) i = s.2 843 i
      · have eM2 : up_ s.2 843 i (lw_ g (s.2 843) i) 843 = s.2 843 := funext (b4 ec)
        refine Or.inl ⟨by rw [if_pos ec]; exact c1, fun c => by rw [b4 ec c]; exact c2 c, fun c c0 c4 => ?_⟩
        rw [eM2]
        by_cases e : c = i
        · rw [e]; exact ec
        · exact c3 c c0 (by omega)
      · have e0 : s.2 843 = v0 843 := funext c2
        exact Or.inr ⟨by rw [if_neg ec], by rw [← e0]; exact b3 ec⟩
    · refine Or.inr ⟨?_, Int.le_trans c3 b2⟩
      split
      · exact c1
      · rfl) (fun n s h => by
    try dsimp only
    have hD1 : D_ s.2 g := D_fr hD (h.1 _ _ (by omega)) (fun a k a0 b0 => h.1 _ _ (by omega)) (fun k _ _ => h.1 _ _ (by omega))
    have hs := hD1.1
    rw [fX12_fillsLive_31, ck_t (by omega), show (814 + 9 : Int) = 823 from rfl, hD1.2.1, if_pos (by omega)]) (g 0 0).toNat fu_ 0 (0, v0) ⟨fun _ _ _ => rfl, hL, Or.inl ⟨rfl, fun _ => rfl, fun c c0 c1 => by omega⟩, by decide⟩ (by omega) (by unfold fu_; omega)
  refine ⟨t, e, h1, h2, ?_⟩
  rcases h3.1 with ⟨c1, c2, c3⟩ | ⟨c1, c3⟩
  · exact Or.inl ⟨c1, Lv_fix h2 fun b b0 b1 => c3 b b0 b1⟩
  · exact Or.inr ⟨c1, c3⟩
theorem rfind_e {g v : V_} (hw : WF_ g) (hD : D_ v g) : ∃ w, fX12_fillsLive 814 v = some (0, w) ∧ (∀ a j, a ≠ 843 → w a j = v a j) ∧ LF_ g (w 843) := by
  have hn := hw.1
  have go : ∀ (d n : Nat) (z : Int) (u : V_), D_ u g → Lv_ g (u 843) → 49 ≤ tt_ (u 843) + d → d < n → (z = 1 ∨ z = 0 ∧ LF_ g (u 843)) → ∃ w, fX12_fillsLive_23 n 814 z u = some (0, w) ∧ (∀ a j, a ≠ 843 → w a j = u a j) ∧ LF_ g (w 843) := by
    intro d
    induction d with
    | zero =>
      intro n z u hC hL hq hn0 hz
      have := tt_48 (u 843)
      omega
    | succ d ih =>
      intro n z u hC hL hq hn0 hz
      obtain ⟨n, rfl⟩ : ∃ k, n = k + 1 := ⟨n - 1, by omega⟩
      rcases hz with z1 | ⟨z1, z2⟩
      · obtain ⟨t, e, h1, h2, h3⟩ := rpass_e hw (fX12_fillsLive_23 n) u hC hL
        have hD1 : D_ t.2 g := D_fr hC (h1 _ _ (by omega)) (fun a k a0 b0 => h1 _ _ (by omega)) (fun k _ _ => h1 _ _ (by omega))
        rcases h3 with ⟨c1, c2⟩ | ⟨c1, c2⟩
        · refine ⟨t.2, ?_, h1, c2⟩
          rw [fX12_fillsLive_23, if_neg (by omega), e, c1]
          obtain ⟨m, rfl⟩ : ∃ k, n = k + 1 := ⟨n - 1, by have := tt_48 (u 843); omega⟩
          rw [fX12_fillsLive_23, if_pos rfl]
        · obtain ⟨w, e2, h4, h5⟩ := ih n t.1 t.2 hD1 h2 (by omega) (by omega) (Or.inl c1)
          refine ⟨w, ?_, fun a j h => (h4 a j h).trans (h1 a j h), h5⟩
          rw [fX12_fillsLive_23, if_neg (by omega), e, e2]
      · exact ⟨u, by rw [fX12_fillsLive_23, if_pos z1], fun _ _ _ => rfl, z2⟩
  unfold fX12_fillsLive
  obtain ⟨u, e, h1, h2, h3⟩ := lp_s (σ := V_) (F := fun n i v => fX12_fillsLive_2 n 814 i v) (K := fun v => fX12_fillsLive_23 fu_ 814 1 v) (e := 8) (I := fun i u => 0 ≤ i ∧ (∀ a j, a ≠ 843 → u a j = v a j) ∧ ∀ b, 0 ≤ b → b < i → u 843 b = 0) (fun n i u h hi => by
    obtain ⟨h0, h1, h2⟩ := h
    try dsimp only
    rw [fX12_fillsLive_2, if_neg (by omega), ck_t (by omega), lt_d, lt_d, wr_id (by omega)]
    refine ⟨_, rfl, by omega, fun a j h => (up_n (by omega)).trans (h1 a j h), fun b b0 b1 => ?_⟩
    by_cases e : b = i
    · exact up_s ⟨rfl, e⟩
    · rw [up_n (by omega)]; exact h2 b b0 (by omega)) (fun n u _ => by
    try dsimp only
    rw [fX12_fillsLive_2, if_pos (by decide)]) 8 fu_ 0 v ⟨by decide, fun _ _ _ => rfl, fun b b0 b1 => by omega⟩ (by decide) (by decide)
  have hD1 : D_ u g := D_fr hD (h2 _ _ (by omega)) (fun a k a0 b0 => h2 _ _ (by omega)) (fun k _ _ => h2 _ _ (by omega))
  obtain ⟨w, e2, h4, h5⟩ := go 49 fu_ 1 u hD1 (Lv_0 fun b b0 b1 => h3 b b0 (by omega)) (by have := tt_48 (u 843); omega) (by decide) (Or.inl rfl)
  exact ⟨w, e.trans e2, fun a j h => (h4 a j h).trans (h2 a j h), h5⟩
