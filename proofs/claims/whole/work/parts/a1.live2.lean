/-! layer 2: live registers, as both find them -/
def CP_ (v : V_) (p : Int) (g : V_) : Prop := (p = 12 ∨ p = 76) ∧ v p 0 = g 0 0 ∧ ∀ b, 0 ≤ b → b < g 0 0 → v (p + 1) b = g 1 b ∧ SE_ v (p + 56 + b) (g 7 b) (g 8 b) (g 9 b) ∧ v (p + 4) (2 * b) = g 10 (2 * b) ∧ v (p + 4) (2 * b + 1) = g 10 (2 * b + 1) ∧ ∀ i, 0 ≤ i → i < g 1 b → SL_ v (p + 8 + (6 * b + i)) (g 2 (6 * b + i)) (g 3 (6 * b + i)) (g 4 (6 * b + i)) (g 5 (6 * b + i)) (g 6 (6 * b + i))
theorem CP_of {v g : V_} {p : Int} (h : C_ v p g) : CP_ v p g := ⟨h.1, h.2.1, h.2.2.1⟩
theorem CP_fr {v w g : V_} {p : Int} (hw : WF_ g) (h : CP_ v p g) (h1 : ∀ a k, p ≤ a → a < p + 64 → a ≠ p + 5 → w a k = v a k) : CP_ w p g := by
  obtain ⟨c0, c1, c2⟩ := h
  refine ⟨c0, by rw [h1 _ _ (by omega) (by omega) (by omega)]; exact c1, fun b b0 b1 => ?_⟩
  obtain ⟨e1, e2, e3, e4, e5⟩ := c2 b b0 b1
  have hn := hw.1
  have hl := (hw.2 b b0 b1).1
  refine ⟨by rw [h1 _ _ (by omega) (by omega) (by omega)]; exact e1, ?_, by rw [h1 _ _ (by omega) (by omega) (by omega)]; exact e3, by rw [h1 _ _ (by omega) (by omega) (by omega)]; exact e4, fun i i0 i1 => ?_⟩
  · unfold SE_ at *
    simp only [h1 (p + 56 + b) _ (by omega) (by omega) (by omega)]
    exact e2
  · have t := e5 i i0 i1
    unfold SL_ at *
    simp only [h1 (p + 8 + (6 * b + i)) _ (by omega) (by omega) (by omega)]
    exact t
theorem leadsP_e {v g : V_} {p b w : Int} (hw : WF_ g) (h : CP_ v p g) (hb : 0 ≤ b ∧ b < g 0 0) (hi : 0 ≤ w ∧ w < 2) : fX5_leadsTo p b w v = some (g 10 (2 * b + w), v) := by
  have hn := hw.1
  obtain ⟨e1, e2, e3, e4, e5⟩ := h.2.2 b hb.1 hb.2
  simp (disch := omega) only [fX5_leadsTo, wr_id, ck_t]
  rcases (by omega : w = 0 ∨ w = 1) with rfl | rfl
  · rw [show b * 2 + 0 = 2 * b by omega, show 2 * b + 0 = 2 * b by omega, e3]
  · rw [show b * 2 + 1 = 2 * b + 1 by omega, e4]
theorem hasB_e {v g : V_} {p t : Int} (h : CP_ v p g) : fX5_hasBlock p t v = some (if 0 ≤ t ∧ t < g 0 0 then 1 else 0, v) := by
  unfold fX5_hasBlock
  rw [h.2.1]
  by_cases c : t < 0
  · rw [if_pos c, if_neg (by omega)]
  · rw [if_neg c]
    by_cases d : g 0 0 ≤ t
    · rw [if_pos d, if_neg (by omega)]
    · rw [if_neg d, if_pos (by omega)]
theorem cbit_e {v : V_} {a : Int} (h : VR_ a) : fX8_bitOf (vl_ a) v = some (lb_ a, v) := by
  unfold fX8_bitOf vl_ lb_
  unfold VR_ at h
  by_cases c : a < 6
  · rw [if_pos (show a < 20 by omega), if_neg (by omega), bX_m (show iR_ (-1 - a) by unfold iR_; omega), if_neg (by omega), if_pos c, show -1 - (-1 - a) = a by omega]
  · rw [if_neg (show ¬ a < 20 by omega), if_pos (by omega), if_neg c]
theorem cread_e {v : V_} {y a b : Int} (h2 : v y 2 = vl_ a) (h3 : v y 3 = vl_ b) (ha : VR_ a) (hb : VR_ b) : fX8_registersRead y v = some (bO_ (lb_ a) (lb_ b), v) := by
  unfold fX8_registersRead
  rw [h2, cbit_e ha, bd_s]
  try dsimp only
  rw [h3, cbit_e hb, bd_s]
section CLIVE
variable {v g : V_} {p b : Int}
theorem clines_e (hw : WF_ g) (h : CP_ v p g) (hb : 0 ≤ b ∧ b < g 0 0) : ∀ (d n : Nat) (s : Int), (d : Int) ≤ g 1 b → d < n → fX5_liveAtBeginning_82 n p b s (d - 1) v = some (ll_ g b d s, v) := by
  have hn := hw.1
  obtain ⟨hl, -, hln⟩ := hw.2 b hb.1 hb.2
  obtain ⟨-, -, -, -, e5⟩ := h.2.2 b hb.1 hb.2
  intro d
  induction d with
  | zero =>
    intro n s hd hn0
    obtain ⟨n, rfl⟩ : ∃ k, n = k + 1 := ⟨n - 1, by omega⟩
    rw [fX5_liveAtBeginning_82, if_pos (by omega)]
    rfl
  | succ d ih =>
    intro n s hd hn0
    obtain ⟨n, rfl⟩ : ∃ k, n = k + 1 := ⟨n - 1, by omega⟩
    obtain ⟨l1, l2, l3⟩ := LN_r (hln d (by omega) (by omega))
    obtain ⟨s0, s1, s2, s3⟩ := e5 d (by omega) (by omega)
    have t := fun z => ih n z (by omega) (by omega)
    rw [fX5_liveAtBeginning_82, if_neg (by omega), show ((d + 1 : Nat) : Int) - 1 = d by omega, wr_id (show -2147483648 ≤ b * 6 ∧ b * 6 < 2147483648 by omega), wr_id (show -2147483648 ≤ b * 6 + d ∧ b * 6 + d < 2147483648 by omega), ck_t (by omega), lt_d, show (p + 2) + (6 + 1 * (b * 6 + d)) = p + 8 + (6 * b + d) by omega, s1]
    unfold fX5_liveAtBeginning_119
    rw [cread_e s2 s3 l2 l3, bd_s, lt_d, lt_d, lt_d]
    try dsimp only
    rw [wr_id (by omega), show (d : Int) + (-1) = d - 1 by omega]
    by_cases c : g 4 (6 * b + d) < 0
    · rw [if_pos c, t]
      simp only [ll_, if_pos c]
    · rw [if_neg c, bd_s, lt_d, lt_d, t]
      simp only [ll_, if_neg c]
theorem clive_e (hw : WF_ g) (h : CP_ v p g) (hL : Lr_ g (v (p + 5))) (hb : 0 ≤ b ∧ b < g 0 0) : fX5_liveAtBeginning p b v = some (lw_ g (v (p + 5)) b, v) := by
  have hn := hw.1
  obtain ⟨hl, he, hln⟩ := hw.2 b hb.1 hb.2
  obtain ⟨e1, ⟨s0, -, s2, s3⟩, -, -, -⟩ := h.2.2 b hb.1 hb.2
  have hp := h.1
  have K : ∀ s, fX5_liveAtBeginning_82 fu_ p b s (wr_ (v (p + 1) b - 1)) v = some (ll_ g b (g 1 b).toNat s, v) := fun s => by
    have t := clines_e hw h hb (g 1 b).toNat fu_ s (by omega) (by unfold fu_; omega)
    rw [show ((g 1 b).toNat : Int) = g 1 b by omega] at t
    rw [e1, wr_id (by omega)]
    exact t
  have way : ∀ (n : Nat) (s w t : Int), 0 ≤ w ∧ w < 2 → g 10 (2 * b + w) = t → (0 ≤ t ∧ t < g 0 0) → fX5_liveAtBeginning_31 (n + 1) p b s w v = fX5_liveAtBeginning_31 n p b (bO_ s (v (p + 5) t)) (w + 1) v := fun n s w t w0 et ht => by
    rw [fX5_liveAtBeginning_31, if_neg (by omega), leadsP_e hw h hb w0, bd_s]
    try dsimp only
    rw [et, hasB_e h, if_pos ht, bd_s, if_neg n10_, ck_t (by omega)]
    unfold fX5_liveAtBeginning_65
    rw [lt_d, lt_d, wr_id (by omega)]
  have noway : ∀ (n : Nat) (s w : Int), 0 ≤ w ∧ w < 2 → g 10 (2 * b + w) = -2 → r6_ s → fX5_liveAtBeginning_31 (n + 1) p b s w v = fX5_liveAtBeginning_31 n p b s (w + 1) v := fun n s w w0 et hs => by
    unfold r6_ at hs
    rw [fX5_liveAtBeginning_31, if_neg (by omega), leadsP_e hw h hb w0, bd_s]
    try dsimp only
    rw [et, hasB_e h, if_neg (by omega), bd_s, if_pos rfl]
    unfold fX5_liveAtBeginning_65
    rw [lt_d, lt_d, wr_id (by omega), bO_0r (by omega)]
  have ende : ∀ (n : Nat) (s : Int), fX5_liveAtBeginning_31 (n + 1) p b s 2 v = some (ll_ g b (g 1 b).toNat s, v) := fun n s => by
    rw [fX5_liveAtBeginning_31, if_pos (by decide), ck_t (by omega), lt_d, K]
  obtain ⟨N, hN⟩ := fu_ge 3 (by decide)
  unfold fX5_liveAtBeginning lw_ lz_
  rw [ck_t (by omega), show (p + 3) + (53 + 1 * b) = p + 56 + b by omega, s0]
  rcases he with ⟨q0, q1, q2, q3, q4, q5⟩ | ⟨q0, q1, q2, q3, q4, q5, q6⟩ | ⟨q0, q1, q2, q3, q4⟩
  · have l0 : lb_ 20 = 0 := by decide
    have lr := hL _ q3 q4
    unfold r6_ at lr
    rw [if_neg (by omega), ck_t (by omega), cread_e (a := 20) (b := 20) (by rw [s2, q1]) (by rw [s3, q2]) (Or.inr (by decide)) (Or.inr (by decide)), bd_s, l0, bO_0l (by decide), if_neg (by omega), if_neg (by omega), hN]
    try dsimp only
    rw [way (N + 2) 0 0 _ (by decide) rfl (by rw [Int.add_zero]; exact ⟨q3, q4⟩), Int.add_zero, bO_0l (by omega)]
    rw [noway (N + 1) _ (0 + 1) (by decide) (by rw [Int.zero_add]; exact q5) lr]
    exact ende N _
  · rw [if_neg (by omega), ck_t (by omega), cread_e s2 s3 q1 q2, bd_s, if_neg (by omega), if_pos q0, hN]
    try dsimp only
    rw [way (N + 2) _ 0 _ (by decide) rfl (by rw [Int.add_zero]; exact ⟨q3, q4⟩), Int.add_zero]
    rw [way (N + 1) _ (0 + 1) _ (by decide) rfl (by rw [Int.zero_add]; exact ⟨q5, q6⟩), Int.zero_add]
    exact ende N _
  · have r63 : r6_ 63 := ⟨by decide, by decide⟩
    rw [if_pos (by omega), if_pos q0, hN, noway (N + 2) 63 0 (by decide) (by rw [Int.add_zero]; exact q3) r63, noway (N + 1) 63 (0 + 1) (by decide) (by rw [Int.zero_add]; exact q4) r63]
    exact ende N _
end CLIVE
theorem cpass_e {g : V_} {p : Int} (hw : WF_ g) (k : Int → Int → Int → V_ → Option (Int × V_)) (q : Int) (v0 : V_) (hC : CP_ v0 p g) (hL : Lv_ g (v0 (p + 5))) (hq : 0 ≤ q ∧ q < 100) : ∃ (t : Int × V_), fX5_findLive_31 k fu_ p 0 q (g 0 0 - 1) v0 = k p t.1 (q + 1) t.2 ∧ (∀ a j, a ≠ p + 5 → t.2 a j = v0 a j) ∧ Lv_ g (t.2 (p + 5)) ∧ ((t.1 = 0 ∧ LF_ g (t.2 (p + 5))) ∨ (t.1 = 1 ∧ tt_ (v0 (p + 5)) + 1 ≤ tt_ (t.2 (p + 5)))) := by
  have hn := hw.1
  have hp := hC.1
  obtain ⟨t, e, h1, h2, h3⟩ := lp_d (σ := Int × V_) (F := fun n i s => fX5_findLive_31 k n p s.1 q i s.2) (K := fun s => k p s.1 (q + 1) s.2) (e := -1) (I := fun i s => (∀ a j, a ≠ p + 5 → s.2 a j = v0 a j) ∧ Lv_ g (s.2 (p + 5)) ∧ ((s.1 = 0 ∧ (∀ c, s.2 (p + 5) c = v0 (p + 5) c) ∧ ∀ c, i < c → c < g 0 0 → 0 ≤ c → lw_ g (s.2 (p + 5)) c = s.2 (p + 5) c) ∨ (s.1 = 1 ∧ i < g 0 0 ∧ tt_ (v0 (p + 5)) + 1 ≤ tt_ (s.2 (p + 5)))) ∧ i < g 0 0) (fun n i s h hi => by
    obtain ⟨a1, a2, a3, a4⟩ := h
    try dsimp only
    have hC1 : CP_ s.2 p g := CP_fr hw hC (fun a j _ _ h3 => a1 a j h3)
    have hb : 0 ≤ i ∧ i < g 0 0 := ⟨by omega, a4⟩
    rw [fX5_findLive_31, if_neg (by omega), clive_e hw hC1 a2.1 hb, bd_s]
    try dsimp only
    have fin : ∀ z, (z = 0 ∨ z = 1) → fX5_findLive_62 k (fX5_findLive_31 k n) p q i (lw_ g (s.2 (p + 5)) i) z s.2 = fX5_findLive_31 k n p z q (i - 1) (up_ s.2 (p + 5) i (lw_ g (s.2 (p + 5)) i)) := fun z hz => by
      unfold fX5_findLive_62
      rw [ck_t (by omega), lt_d, lt_d, wr_id (by omega)]
      rfl
    have eM : ∀ c, up_ s.2 (p + 5) i (lw_ g (s.2 (p + 5)) i) (p + 5) c = if c = i then lw_ g (s.2 (p + 5)) i else s.2 (p + 5) c := fun c => by
      by_cases e : c = i
      · rw [up_s ⟨rfl, e⟩, if_pos e]
      · rw [up_n (by omega), if_neg e]
    obtain ⟨b1, b2, b3, b4⟩ := Lv_step hw a2 hb (M := up_ s.2 (p + 5) i (lw_ g (s.2 (p + 5)) i) (p + 5)) eM
    rcases a3 with ⟨c1, c2, c3⟩ | ⟨c1, c2, c3⟩
    · rw [if_pos c1, ck_t (by omega)]
      by_cases ec : lw_ g (s.2 (p + 5)) i = s.2 (p + 5) i
      · rw [if_pos ec, fin 0 (Or.inl rfl)]
        have eM2 : up_ s.2 (p + 5) i (lw_ g (s.2 (p + 5)) i) (p + 5) = s.2 (p + 5) := funext (b4 ec)
        refine ⟨(0, up_ s.2 (p + 5) i (lw_ g (s.2 (p + 5)) i)), rfl, fun a j h => ?_, b1, Or.inl ⟨rfl, fun c => ?_, fun c c4 c5 c6 => ?_⟩, by omega⟩
        · try dsimp only
          rw [up_n (by omega)]; exact a1 a j h
        · try dsimp only
          rw [b4 ec c]; exact c2 c
        · try dsimp only
          rw [eM2]
          by_cases e : c = i
          · rw [e]; exact ec
          · exact c3 c (by omega) c5 c6
      · rw [if_neg ec]
        unfold fX5_findLive_57
        rw [fin 1 (Or.inr rfl)]
        refine ⟨(1, up_ s.2 (p + 5) i (lw_ g (s.2 (p + 5)) i)), rfl, fun a j h => ?_, b1, Or.inr ⟨rfl, by omega, ?_⟩, by omega⟩
        · try dsimp only
          rw [up_n (by omega)]; exact a1 a j h
        · have e0 : s.2 (p + 5) = v0 (p + 5) := funext c2
          rw [← e0]
          exact b3 ec
    · rw [if_neg (by omega)]
      unfold fX5_findLive_57
      rw [fin 1 (Or.inr rfl)]
      refine ⟨(1, up_ s.2 (p + 5) i (lw_ g (s.2 (p + 5)) i)), rfl, fun a j h => ?_, b1, Or.inr ⟨rfl, by omega, ?_⟩, by omega⟩
      · try dsimp only
        rw [up_n (by omega)]; exact a1 a j h
      · exact Int.le_trans c3 b2) (fun n s _ => by
    try dsimp only
    rw [fX5_findLive_31, if_pos (by decide), lt_d, wr_id (by omega)]) (g 0 0).toNat fu_ (g 0 0 - 1) (0, v0) ⟨fun _ _ _ => rfl, hL, Or.inl ⟨rfl, fun _ => rfl, fun c c0 c1 _ => by omega⟩, by omega⟩ (by omega) (by unfold fu_; omega)
  refine ⟨t, e, h1, h2, ?_⟩
  rcases h3.1 with ⟨c1, c2, c3⟩ | ⟨c1, c2, c3⟩
  · exact Or.inl ⟨c1, Lv_fix h2 fun b b0 b1 => c3 b (by omega) b1 b0⟩
  · exact Or.inr ⟨c1, c3⟩
theorem cfind_e {g v : V_} {p : Int} (hw : WF_ g) (hC : CP_ v p g) : ∃ w, fX5_findLive p v = some (0, w) ∧ (∀ a j, a ≠ p + 5 → w a j = v a j) ∧ LF_ g (w (p + 5)) := by
  have hn := hw.1
  have hp := hC.1
  have go : ∀ (d n : Nat) (q z : Int) (u : V_), CP_ u p g → Lv_ g (u (p + 5)) → 0 ≤ q → q + d = 49 → d < n → (z = 1 ∧ q ≤ tt_ (u (p + 5)) ∨ z = 0 ∧ LF_ g (u (p + 5))) → ∃ w, fX5_findLive_12 n p z q u = some (0, w) ∧ (∀ a j, a ≠ p + 5 → w a j = u a j) ∧ LF_ g (w (p + 5)) := by
    intro d
    induction d with
    | zero =>
      intro n q z u hC hL q0 hq hn0 hz
      obtain ⟨n, rfl⟩ : ∃ k, n = k + 1 := ⟨n - 1, by omega⟩
      rcases hz with ⟨z1, z2⟩ | ⟨z1, z2⟩
      · have := tt_48 (u (p + 5))
        omega
      · exact ⟨u, by rw [fX5_findLive_12, if_pos z1], fun _ _ _ => rfl, z2⟩
    | succ d ih =>
      intro n q z u hC hL q0 hq hn0 hz
      obtain ⟨n, rfl⟩ : ∃ k, n = k + 1 := ⟨n - 1, by omega⟩
      rcases hz with ⟨z1, z2⟩ | ⟨z1, z2⟩
      · obtain ⟨t, e, h1, h2, h3⟩ := cpass_e hw (fX5_findLive_12 n) q u hC hL ⟨q0, by omega⟩
        obtain ⟨w, e2, h4, h5⟩ := ih n (q + 1) t.1 t.2 (CP_fr hw hC (fun a j _ _ h => h1 a j h)) h2 (by omega) (by omega) (by omega) (by
          rcases h3 with ⟨c1, c2⟩ | ⟨c1, c2⟩
          · exact Or.inr ⟨c1, c2⟩
          · exact Or.inl ⟨c1, by omega⟩)
        refine ⟨w, ?_, fun a j h => (h4 a j h).trans (h1 a j h), h5⟩
        rw [fX5_findLive_12, if_neg (by omega), if_neg (by omega), hC.2.1, wr_id (by omega), lt_d, e, e2]
      · exact ⟨u, by rw [fX5_findLive_12, if_pos z1], fun _ _ _ => rfl, z2⟩
  unfold fX5_findLive
  rw [lt_d]
  have f0 : ∀ a j, a ≠ p + 5 → fl_ v (p + 5) 8 0 a j = v a j := fun a j h => if_neg (fun q => h q.1)
  have f1 : ∀ b, 0 ≤ b → b < g 0 0 → fl_ v (p + 5) 8 0 (p + 5) b = 0 := fun b b0 b1 => if_pos ⟨rfl, b0, by omega⟩
  obtain ⟨w, e, h1, h2⟩ := go 49 fu_ 0 1 (fl_ v (p + 5) 8 0) (CP_fr hw hC (fun a j _ _ h => f0 a j h)) (Lv_0 f1) (by decide) (by decide) (by decide) (Or.inl ⟨rfl, (tt_48 _).1⟩)
  exact ⟨w, e, fun a j h => (h1 a j h).trans (f0 a j h), h2⟩
