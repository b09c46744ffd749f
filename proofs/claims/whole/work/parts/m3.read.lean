/-! layer 2: read, whole -/
theorem nhf_ {i a k : Int} (h : a < 823 ∨ 835 < a) : ¬ hf_ i a k := by
  unfold hf_
  omega
/-- a row anew, in both -/
theorem RW_new {v w : V_} (c46 : v 141 46 = 1) (c0 : ∀ k, 0 ≤ k → k < 38 → v 141 k = 0) (r0 : ∀ k, 0 ≤ k → k < 38 → w 837 k = 0) (r38 : w 837 38 = 1) (ct : ∀ t, 0 ≤ t → t < 4 → w 837 (39 + t) = v 141 (38 + t) ∧ w 837 (43 + t) = v 141 (42 + t) ∧ (1 ≤ v 141 (38 + t) ∧ v 141 (38 + t) ≤ 4) ∧ 1 ≤ v 141 (42 + t) ∧ v 141 (42 + t) ≤ 6) : RW_ v 141 w 837 0 := by
  refine ⟨⟨Or.inr c46, fun k k0 k1 => ?_, fun k k0 k1 => ?_, fun k k0 k1 => ?_, fun k k0 k1 => ?_⟩, fun k k0 k1 => ?_⟩
  · rw [c0 k k0 (by omega)]
    unfold iR_
    omega
  · rw [c0 k (by omega) k1]
    omega
  · have := (ct (k - 38) (by omega) (by omega)).2.2.1
    rw [show 38 + (k - 38) = k by omega] at this
    exact this
  · have := (ct (k - 42) (by omega) (by omega)).2.2.2
    rw [show 42 + (k - 42) = k by omega] at this
    exact this
  · rw [Int.zero_add]
    by_cases c1 : k < 38
    · rw [show pm_ k = k from if_pos c1, r0 k k0 c1, c0 k k0 c1]
    · by_cases c2 : k = 46
      · rw [c2, show pm_ 46 = 38 from rfl, r38, c46]
      · have ep : pm_ k = k + 1 := by unfold pm_; rw [if_neg c1, if_neg c2]
        rw [ep]
        by_cases c3 : k < 42
        · have := (ct (k - 38) (by omega) (by omega)).1
          rw [show 39 + (k - 38) = k + 1 by omega, show 38 + (k - 38) = k by omega] at this
          exact this
        · have := (ct (k - 42) (by omega) (by omega)).2.1
          rw [show 43 + (k - 42) = k + 1 by omega, show 42 + (k - 42) = k by omega] at this
          exact this
theorem cls_S {v9 g : V_} {p : Int} (hp : p = 12 ∨ p = 76) (PW : WF_ g) (PC9 : CP_ v9 p g) (e14 : v9 1 4 = p) : ∃ vf, (ck_ (v9 1 4 = PA_ ∨ v9 1 4 = PB_) (
        bd_ (fX5_findLive (v9 1 4) v9) fun q21 =>
        ck_ (q21.2 1 4 = PA_ ∨ q21.2 1 4 = PB_) (
        bd_ (fX7_begin (1 + 139) (q21.2 1 4) q21.2) fun q25 =>
        bd_ (fX0_forgetDone (1 + 141) q25.2) fun q27 =>
        bd_ (fX0_forgetHeld (1 + 141) q27.2) fun q29 =>
        bd_ (fX11_forgetAll 1 q29.2) fun q30 =>
        some ((0 : Int), q30.2)))) = some (0, vf) ∧ (∀ a k, ¬ (a = 1 ∧ 11 ≤ k ∧ k ≤ 13) → ¬ (a = 188 ∧ 0 ≤ k ∧ k < 3) → ¬ (a = 142 ∧ k = 4) → a ≠ 141 → a ≠ p + 5 → vf a k = v9 a k) ∧ LF_ g (vf (p + 5)) ∧ (∀ k, 11 ≤ k → k ≤ 13 → vf 1 k = 0) ∧ (∀ k, 0 ≤ k → k < 3 → vf 188 k = 0) ∧ vf 142 4 = 0 ∧ vf 141 46 = 1 ∧ (∀ k, 0 ≤ k → k < 38 → vf 141 k = 0) ∧ ∀ t, 0 ≤ t → t < 4 → vf 141 (38 + t) = v9 (p + 6) t ∧ vf 141 (42 + t) = v9 (p + 7) t := by
  obtain ⟨v3, l1, l2, l3⟩ := cfind_e PW PC9
  have e34 : v3 1 4 = p := by rw [l2 _ _ (by omega)]; exact e14
  rw [ck_t (by rw [e14]; exact hp), e14, l1, bd_s]
  try dsimp only [Int.reduceAdd]
  rw [ck_t (by rw [e34]; exact hp), e34, begin_e hp, bd_s]
  try dsimp only
  unfold fX0_forgetDone
  rw [lt_d, bd_s]
  try dsimp only
  rw [forget3_e, bd_s]
  unfold fX11_forgetAll fX11_forgetRuns
  try dsimp only
  rw [lt_d, lt_d, lt_d, bd_s, bd_s]
  try dsimp only
  obtain ⟨n1, n2, n3⟩ := bg_i (v := v3) hp
  have X : ∀ a k, ¬ (a = 1 ∧ 11 ≤ k ∧ k ≤ 13) → ¬ (a = 188 ∧ 0 ≤ k ∧ k < 3) → ¬ (a = 142 ∧ k = 4) → up_ (up_ (up_ (zf_ (up_ (bg_ v3 p) 142 4 0) 188 0 3) 1 11 0) 1 12 0) 1 13 0 a k = bg_ v3 p a k := fun a k k1 k2 k3 => by
    rw [up_n (by omega), up_n (by omega), up_n (by omega), zf_o k2, up_n k3]
  refine ⟨_, rfl, fun a k k1 k2 k3 k4 k5 => ?_, ?_, fun k k0 k1 => ?_, fun k k0 k1 => ?_, ?_, ?_, fun k k0 k1 => ?_, fun t t0 t1 => ?_⟩
  · rw [X a k k1 k2 k3, bg_o k4, l2 a k k5]
  · have e5 : up_ (up_ (up_ (zf_ (up_ (bg_ v3 p) 142 4 0) 188 0 3) 1 11 0) 1 12 0) 1 13 0 (p + 5) = v3 (p + 5) := funext fun k => by rw [X _ _ (by omega) (by omega) (by omega)]; exact bg_o (by omega)
    rw [e5]
    exact l3
  · rcases (by omega : k = 11 ∨ k = 12 ∨ k = 13) with rfl | rfl | rfl
    · rw [up_n (by omega), up_n (by omega), up_s ⟨rfl, rfl⟩]
    · rw [up_n (by omega), up_s ⟨rfl, rfl⟩]
    · rw [up_s ⟨rfl, rfl⟩]
  · rw [up_n (by omega), up_n (by omega), up_n (by omega), zf_i ⟨rfl, k0, by omega⟩]
  · rw [up_n (by omega), up_n (by omega), up_n (by omega), zf_o (by omega), up_s ⟨rfl, rfl⟩]
  · rw [X _ _ (by omega) (by omega) (by omega)]; exact n1
  · rw [X _ _ (by omega) (by omega) (by omega)]; exact n2 k k0 k1
  · rw [X _ _ (by omega) (by omega) (by omega), X _ _ (by omega) (by omega) (by omega), (n3 t t0 t1).1, (n3 t t0 t1).2, l2 _ _ (by omega), l2 _ _ (by omega)]
    exact ⟨rfl, rfl⟩
theorem ref_S {w2 : V_} {i y : Int} (hi : i = 0 ∨ i = 1) (k13 : w2 814 13 = 0) (k15 : w2 814 15 = 0) (i19 : w2 814 19 = i) : ∃ wf, fX12_read_229 814 814 y w2 = some (0, wf) ∧ (∀ a k, a ≠ 837 → a ≠ 838 → a ≠ 871 → ¬ (a = 814 ∧ (k = 17 ∨ k = 18 ∨ k = 69 ∨ k = 77)) → wf a k = w2 a k) ∧ wf 814 17 = y ∧ wf 814 18 = i ∧ wf 814 69 = 0 ∧ wf 814 77 = 0 ∧ (∀ k, 0 ≤ k → k < 3 → wf 871 k = 0) ∧ (∀ k, 0 ≤ k → k < 38 → wf 837 k = 0) ∧ wf 837 38 = 1 ∧ ∀ t, 0 ≤ t → t < 4 → wf 837 (39 + t) = w2 824 (4 * i + t) ∧ wf 837 (43 + t) = w2 825 (4 * i + t) := by
  obtain ⟨u, b1, b2, b3, b4, b5⟩ := begins_T (w := up_ (up_ w2 814 17 y) 814 18 i) (i := i) ⟨up_s ⟨rfl, rfl⟩, hi⟩
  have Z837 : ∀ k, 0 ≤ k → k < 47 → zf_ (up_ (up_ (cp_ u 838 0 837 0 47) 814 69 0) 814 77 0) 871 0 3 837 k = u 838 k := fun k k0 k1 => by
    rw [zf_o (by omega), up_n (by omega), up_n (by omega), cp_i ⟨rfl, k0, by omega⟩, show (0 : Int) + (k - 0) = k by omega]
  refine ⟨zf_ (up_ (up_ (cp_ u 838 0 837 0 47) 814 69 0) 814 77 0) 871 0 3, ?_, fun a k k1 k2 k3 k4 => ?_, ?_, ?_, ?_, ?_, fun k k0 k1 => zf_i ⟨rfl, k0, by omega⟩, fun k k0 k1 => ?_, ?_, fun t t0 t1 => ?_⟩
  · unfold fX12_read_229
    rw [lt_d, if_pos (by rw [up_n (by omega)]; omega), if_pos (by rw [up_n (by omega)]; omega), up_n (show ¬ ((814 : Int) = 814 ∧ (19 : Int) = 17) by omega), i19, lt_d, b1, bd_s]
    try dsimp only
    rw [keepsRow_e, bd_s, lt_d, lt_d]
    try dsimp only
    rw [held3_e]
  · rw [zf_o (by omega), up_n (by omega), up_n (by omega), cp_o (by omega), b2 a k k2, up_n (by omega), up_n (by omega)]
  · rw [zf_o (by omega), up_n (by omega), up_n (by omega), cp_o (by omega), b2 _ _ (by decide), up_n (by omega), up_s ⟨rfl, rfl⟩]
  · rw [zf_o (by omega), up_n (by omega), up_n (by omega), cp_o (by omega), b2 _ _ (by decide), up_s ⟨rfl, rfl⟩]
  · rw [zf_o (by omega), up_n (by omega), up_s ⟨rfl, rfl⟩]
  · rw [zf_o (by omega), up_s ⟨rfl, rfl⟩]
  · rw [Z837 k k0 (by omega)]; exact b3 k k0 k1
  · rw [Z837 38 (by decide) (by decide)]; exact b4
  · rw [Z837 _ (by omega) (by omega), Z837 _ (by omega) (by omega)]
    have := b5 t t0 t1
    rw [up_n (by omega), up_n (by omega), up_n (by omega), up_n (by omega)] at this
    exact this
/-- what reading has changed, the draft's part aside -/
def RV1_ (p : Int) (vc v2 : V_) : Prop := ∀ a k, a ≠ 3 → ¬ (6 ≤ a ∧ a ≤ 11) → ¬ (a = 4 ∧ k = 4) → ¬ (p ≤ a ∧ a < p + 64) → v2 a k = vc a k
def RV2_ (i : Int) (vr w2 : V_) : Prop := ∀ a k, ¬ (a = 814 ∧ (k = 2 ∨ k = 4 ∨ k = 10 ∨ k = 11 ∨ (13 ≤ k ∧ k ≤ 17) ∨ k = 19 ∨ k = 20)) → ¬ (816 ≤ a ∧ a ≤ 820) → a ≠ 822 → a ≠ 836 → ¬ hf_ i a k → w2 a k = vr a k
theorem read_no {vc vr v2 w2 g : V_} {q y c : Int} (h2 : RS_ vc vr) (h3 : RV_ vc vr) (h4 : vc 1 5 = 88 - q) (h5 : CX_ g q vc vr) (V : RV1_ (88 - q) vc v2) (W : RV2_ (1 - vr 814 18) vr w2) (w22 : w2 814 2 = 0) : RX_ (up_ (up_ v2 1 2 y) 1 1 0) (up_ w2 814 17 y) ∧ Fc_ vc (up_ (up_ v2 1 2 y) 1 1 0) ∧ Fr_ vr (up_ w2 814 17 y) := by
  have hq := h5.2.2.1.1
  have V9 : ∀ a k, a ≠ 3 → ¬ (6 ≤ a ∧ a ≤ 11) → ¬ (a = 4 ∧ k = 4) → ¬ (88 - q ≤ a ∧ a < 88 - q + 64) → ¬ (a = 1 ∧ 1 ≤ k ∧ k ≤ 2) → up_ (up_ v2 1 2 y) 1 1 0 a k = vc a k := fun a k k1 k2 k3 k4 k5 => by
    rw [up_n (by omega), up_n (by omega)]; exact V a k k1 k2 k3 k4
  have W9 : ∀ a k, ¬ (a = 814 ∧ (k = 2 ∨ k = 4 ∨ k = 10 ∨ k = 11 ∨ (13 ≤ k ∧ k ≤ 17) ∨ k = 19 ∨ k = 20)) → ¬ (816 ≤ a ∧ a ≤ 820) → a ≠ 822 → a ≠ 836 → ¬ hf_ (1 - vr 814 18) a k → up_ w2 814 17 y a k = vr a k := fun a k k1 k2 k3 k4 k5 => by
    rw [up_n (by omega)]; exact W a k k1 k2 k3 k4 k5
  have e11 : up_ (up_ v2 1 2 y) 1 1 0 1 1 = 0 := up_s ⟨rfl, rfl⟩
  have e12 : up_ (up_ v2 1 2 y) 1 1 0 1 2 = y := by rw [up_n (by omega), up_s ⟨rfl, rfl⟩]
  have e17 : up_ w2 814 17 y 814 17 = y := up_s ⟨rfl, rfl⟩
  have e2 : up_ w2 814 17 y 814 2 = 0 := by rw [up_n (by omega)]; exact w22
  generalize up_ (up_ v2 1 2 y) 1 1 0 = v9 at V9 e11 e12 ⊢
  generalize up_ w2 814 17 y = w9 at W9 e17 e2 ⊢
  have W9' : ∀ a k, a = 815 ∨ a = 821 ∨ 837 ≤ a → w9 a k = vr a k := fun a k k1 => W9 a k (by omega) (by omega) (by omega) (by omega) (nhf_ (by omega))
  have W14 : ∀ k, k = 18 ∨ k = 52 ∨ k = 69 ∨ k = 77 → w9 814 k = vr 814 k := fun k k1 => W9 814 k (by omega) (by omega) (by omega) (by omega) (nhf_ (by omega))
  refine ⟨⟨?_, ?_, ?_, g, q, ?_, ?_⟩, fun a k k1 => V9 a k (by omega) (by omega) (by omega) (by omega) (by omega), fun a k k1 => W9 a k (by omega) (by omega) (by omega) (by omega) (nhf_ (by omega))⟩
  · exact ⟨by rw [e11]; decide, by rw [e11, e2], fun k k0 k1 => by omega⟩
  · exact RS_w h2 (fun a k k1 k2 => V9 a k (by omega) (by omega) (by omega) (by omega) (by omega)) (fun a k k1 => W9' a k (by omega)) (W14 _ (by omega))
  · refine ⟨by rw [e12, e17], fun k k0 k1 => ?_⟩
    rw [V9 _ _ (by omega) (by omega) (by omega) (by omega) (by omega), W9' _ _ (by omega)]
    exact h3.2 k k0 k1
  · rw [V9 _ _ (by omega) (by omega) (by omega) (by omega) (by omega)]; exact h4
  · exact CX_h h5 (fun a k k1 => V9 a k (by omega) (by omega) (by omega) (by omega) (by omega)) (fun k k1 => V9 1 k (by omega) (by omega) (by omega) (by omega) (by omega)) (fun a k k1 k2 k3 k4 => W9 a k (by omega) (by omega) (by omega) k3 k4) (fun k k1 => W14 k (by omega))
/-- the relation behind a program read: from the class's memory v9 and the reference's w2 -/
theorem read_X {vc vr v9 w2 vf wf : V_} {p i y : Int} (h2 : RS_ vc vr) (h3 : RV_ vc vr) (hp : p = 12 ∨ p = 76) (hi : i = 0 ∨ i = 1) (e11 : v9 1 1 = 0) (e12 : v9 1 2 = y) (e14 : v9 1 4 = p) (e15 : v9 1 5 = 88 - p) (V : ∀ a k, a ≠ 3 → ¬ (6 ≤ a ∧ a ≤ 11) → ¬ (a = 4 ∧ k = 4) → ¬ (p ≤ a ∧ a < p + 64) → a ≠ 1 → v9 a k = vc a k) (W : RV2_ i vr w2) (w22 : w2 814 2 = 0) (PW : WF_ (pgm_ w2 i)) (PC9 : CP_ v9 p (pgm_ w2 i)) (PU : ∀ t, 0 ≤ t → t < 4 → v9 (p + 6) t = w2 824 (4 * i + t) ∧ v9 (p + 7) t = w2 825 (4 * i + t) ∧ (1 ≤ w2 824 (4 * i + t) ∧ w2 824 (4 * i + t) ≤ 4) ∧ 1 ≤ w2 825 (4 * i + t) ∧ w2 825 (4 * i + t) ≤ 6) (x1 : ∀ a k, ¬ (a = 1 ∧ 11 ≤ k ∧ k ≤ 13) → ¬ (a = 188 ∧ 0 ≤ k ∧ k < 3) → ¬ (a = 142 ∧ k = 4) → a ≠ 141 → a ≠ p + 5 → vf a k = v9 a k) (x2 : LF_ (pgm_ w2 i) (vf (p + 5))) (x3 : ∀ k, 11 ≤ k → k ≤ 13 → vf 1 k = 0) (x4 : ∀ k, 0 ≤ k → k < 3 → vf 188 k = 0) (x5 : vf 142 4 = 0) (x6 : vf 141 46 = 1) (x7 : ∀ k, 0 ≤ k → k < 38 → vf 141 k = 0) (x8 : ∀ t, 0 ≤ t → t < 4 → vf 141 (38 + t) = v9 (p + 6) t ∧ vf 141 (42 + t) = v9 (p + 7) t) (z1 : ∀ a k, a ≠ 837 → a ≠ 838 → a ≠ 871 → ¬ (a = 814 ∧ (k = 17 ∨ k = 18 ∨ k = 69 ∨ k = 77)) → wf a k = w2 a k) (z2 : wf 814 17 = y) (z3 : wf 814 18 = i) (z4 : wf 814 69 = 0) (z5 : wf 814 77 = 0) (z6 : ∀ k, 0 ≤ k → k < 3 → wf 871 k = 0) (z7 : ∀ k, 0 ≤ k → k < 38 → wf 837 k = 0) (z8 : wf 837 38 = 1) (z9 : ∀ t, 0 ≤ t → t < 4 → wf 837 (39 + t) = w2 824 (4 * i + t) ∧ wf 837 (43 + t) = w2 825 (4 * i + t)) : RX_ vf wf := by
  have HW : RW_ vf 141 wf 837 0 := RW_new x6 x7 z7 z8 fun t t0 t1 => by
    rw [(x8 t t0 t1).1, (x8 t t0 t1).2, (z9 t t0 t1).1, (z9 t t0 t1).2]
    obtain ⟨p1, p2, p3⟩ := PU t t0 t1
    rw [p1, p2]
    exact ⟨rfl, rfl, p3⟩
  have G := gn_G (pgm_ w2 i) (wf 837)
  refine ⟨?_, ⟨HW, ?_, ?_⟩, ?_, gw_' (pgm_ w2 i) (wf 837), p, ?_, WF_new PW G, RG_row HW, ?_, ?_, LF_new x2 G, ?_, fun k k0 k1 => ⟨?_, HW.1.2.1 k k0 k1⟩, Or.inl (x3 11 (by decide) (by decide)), Or.inl z4, Or.inl (x3 12 (by decide) (by decide)), Or.inl (x3 13 (by decide) (by decide))⟩
  · have y1 : vf 1 1 = 0 := by rw [x1 _ _ (by omega) (by omega) (by omega) (by omega) (by omega)]; exact e11
    refine ⟨by rw [y1]; decide, ?_, fun k k0 k1 => by omega⟩
    rw [y1, z1 _ _ (by omega) (by omega) (by omega) (by omega)]
    exact w22
  · have y3 : vf 142 3 = vc 142 3 := by rw [x1 _ _ (by omega) (by omega) (by omega) (by omega) (by omega), V _ _ (by omega) (by omega) (by omega) (by omega) (by omega)]
    exact ⟨by rw [x5]; decide, by rw [y3]; exact h2.2.1.2.1, by rw [z5, x5], fun m m0 m1 => by omega⟩
  · exact fun x x0 x1' => ⟨Or.inl (x4 x x0 x1'), by rw [z6 x x0 x1', x4 x x0 x1'], fun z => by rw [x4 x x0 x1'] at z; cases z⟩
  · refine ⟨?_, fun k k0 k1 => ?_⟩
    · rw [x1 _ _ (by omega) (by omega) (by omega) (by omega) (by omega), e12, z2]
    · rw [x1 _ _ (by omega) (by omega) (by omega) (by omega) (by omega), V _ _ (by omega) (by omega) (by omega) (by omega) (by omega), z1 _ _ (by omega) (by omega) (by omega) (by omega), W _ _ (by omega) (by omega) (by omega) (by omega) (nhf_ (by omega))]
      exact h3.2 k k0 k1
  · rw [x1 _ _ (by omega) (by omega) (by omega) (by omega) (by omega), e15]
  · have PCf : CP_ vf p (pgm_ w2 i) := CP_fr PW PC9 (fun a k k1 k2 k3 => x1 a k (by omega) (by omega) (by omega) (by omega) k3)
    unfold C_
    rw [G 0 (by decide), G 1 (by decide), G 2 (by decide), G 3 (by decide), G 4 (by decide), G 5 (by decide), G 6 (by decide), G 7 (by decide), G 8 (by decide), G 9 (by decide), G 10 (by decide)]
    refine ⟨PCf.1, PCf.2.1, PCf.2.2, fun k k0 k1 => ?_⟩
    have := HW.2 k (by omega) k1
    rw [Int.zero_add] at this
    rw [show gw_' (pgm_ w2 i) (wf 837) 11 (pm_ k) = wf 837 (pm_ k) from if_pos rfl]
    exact this.symm
  · rw [x1 _ _ (by omega) (by omega) (by omega) (by omega) (by omega)]; exact e14
  · have e18 : cp_ wf 837 0 838 0 47 814 18 = i := by rw [cp_o (by omega)]; exact z3
    have eo : ∀ a k, 823 ≤ a → a ≤ 835 → cp_ wf 837 0 838 0 47 a k = w2 a k := fun a k k1 k2 => by
      rw [cp_o (by omega)]
      exact z1 a k (by omega) (by omega) (by omega) (by omega)
    unfold D_
    rw [e18, G 0 (by decide), G 1 (by decide), G 2 (by decide), G 3 (by decide), G 4 (by decide), G 5 (by decide), G 6 (by decide), G 7 (by decide), G 8 (by decide), G 9 (by decide), G 10 (by decide)]
    refine ⟨by omega, eo _ _ (by decide) (by decide), fun k k0 k1 => ⟨eo _ _ (by decide) (by decide), eo _ _ (by decide) (by decide), eo _ _ (by decide) (by decide), eo _ _ (by decide) (by decide)⟩, fun k k0 k1 => ⟨eo _ _ (by decide) (by decide), eo _ _ (by decide) (by decide), eo _ _ (by decide) (by decide), eo _ _ (by decide) (by decide), eo _ _ (by decide) (by decide)⟩, fun k k0 k1 => eo _ _ (by decide) (by decide), fun k k0 k1 => ?_⟩
    rw [cp38 _ (by omega) k1]
    exact (if_pos rfl).symm
  · have := HW.2 k k0 (by omega)
    rw [Int.zero_add, show pm_ k = k from if_pos (by omega)] at this
    exact this
theorem read_T : Tw_ RX_ (fX11_read 1) (fX12_read 814) := fun vc vr hR => by
  obtain ⟨h1, h2, h3, g, q, h4, h5⟩ := hR
  have hp : vc 1 4 = q := h5.2.2.2.1
  have hq := h5.2.2.1.1
  have hj : 0 ≤ vr 814 18 ∧ vr 814 18 < 2 := by
    have := h5.2.2.2.2.2.1.1
    rw [cp_o (by omega)] at this
    exact this
  have hp' : 88 - q = 12 ∨ 88 - q = 76 := by omega
  have hi : 1 - vr 814 18 = 0 ∨ 1 - vr 814 18 = 1 := by omega
  obtain ⟨M, v0, w0, v1, w1, a1, r1, hE, hJ, hT, F1, F2, z2⟩ := parse_T (p := 88 - q) (i := 1 - vr 814 18) h1 h3.2 hp' hi (by omega)
  obtain ⟨c, y, v2, w2, a2, a3, G1, r2, G2, hc⟩ := ends_T hE hJ hT
  obtain ⟨J1, J2, -⟩ := hJ
  -- what has changed
  have V : RV1_ (88 - q) vc v2 := fun a k k1 k2 k3 k4 => by
    rw [G1 a k k1 (by omega), J1 a k (by omega) (by omega) k4, F1 a k k1 (by omega) k3 (by omega) k4]
  have W : RV2_ (1 - vr 814 18) vr w2 := fun a k k1 k2 k3 k4 k5 => by
    have k6 : ¬ (a = 835 ∧ 16 * (1 - vr 814 18) ≤ k ∧ k < 16 * (1 - vr 814 18) + 16) := fun z => k5 (Or.inr (Or.inr (Or.inr (Or.inr z))))
    rw [G2 a k (by omega) k6, J2 a k (by omega) k3 k4 k5, F2 a k (by omega) k2 k5]
  have w22 : w2 814 2 = 0 := by
    rw [G2 _ _ (by omega) (by omega), J2 _ _ (by omega) (by omega) (by omega) (nhf_ (by omega))]
    exact z2
  have i19 : w2 814 19 = 1 - vr 814 18 := by
    rw [G2 _ _ (by omega) (by omega), J2 _ _ (by omega) (by omega) (by omega) (nhf_ (by omega))]
    exact hE.2.2.2.2
  have hP : vc 1 5 = PA_ ∨ vc 1 5 = PB_ := by rw [h4]; exact hp'
  have A : fX11_read 1 vc = (lt_ (up_ (up_ v2 1 2 y) 1 1 0) fun v9 =>
      if c = 0 then (
        ck_ (v9 1 4 = PA_ ∨ v9 1 4 = PB_) (
        lt_ (v9 1 4) fun y13 =>
        ck_ (v9 1 5 = PA_ ∨ v9 1 5 = PB_) (
        lt_ (up_ v9 1 4 (v9 1 5)) fun v17 =>
        lt_ (up_ v17 1 5 y13) fun v18 =>
        ck_ (v18 1 4 = PA_ ∨ v18 1 4 = PB_) (
        bd_ (fX5_findLive (v18 1 4) v18) fun q21 =>
        ck_ (q21.2 1 4 = PA_ ∨ q21.2 1 4 = PB_) (
        bd_ (fX7_begin (1 + 139) (q21.2 1 4) q21.2) fun q25 =>
        bd_ (fX0_forgetDone (1 + 141) q25.2) fun q27 =>
        bd_ (fX0_forgetHeld (1 + 141) q27.2) fun q29 =>
        bd_ (fX11_forgetAll 1 q29.2) fun q30 =>
        some ((0 : Int), q30.2))))))
      else (
        some (c, v9))) := by
    unfold fX11_read
    rw [ck_t hP, show (1 : Int) + 2 = 3 from rfl, show (1 : Int) + 1 = 2 from rfl, h4, a1, a2, bd_s]
    unfold fX3_placeOfFault
    rw [bd_s]
    try dsimp only
    rw [a3, lt_d]
  rw [A, r1, r2, lt_d]
  clear A r1 r2 a1 a2 a3 F1 F2 J1 J2 G1 G2 hT hE z2
  rcases hc with ⟨c0, r3⟩ | ⟨c0, k13, k15, ky, PW, PC, PU⟩
  · rw [if_neg (by omega), r3]
    exact ⟨c, _, _, rfl, rfl, read_no (c := c) h2 h3 h4 h5 V W w22⟩
  · -- a program
    obtain ⟨wf, s1, s2, s3, s4, s5, s6, s7, s8, s9, s10⟩ := ref_S (y := y) hi k13 k15 i19
    have o5 : up_ (up_ v2 1 2 y) 1 1 0 1 5 = 88 - q := by rw [up_n (by omega), up_n (by omega), V _ _ (by omega) (by omega) (by omega) (by omega)]; exact h4
    have o4 : up_ (up_ v2 1 2 y) 1 1 0 1 4 = q := by rw [up_n (by omega), up_n (by omega), V _ _ (by omega) (by omega) (by omega) (by omega)]; exact hp
    rw [if_pos c0, ck_t (by rw [o4]; exact hq), o4, o5, lt_d, ck_t (show 88 - q = PA_ ∨ 88 - q = PB_ from hp'), lt_d, lt_d, s1]
    have V9 : ∀ a k, a ≠ 1 → up_ (up_ (up_ (up_ v2 1 2 y) 1 1 0) 1 4 (88 - q)) 1 5 q a k = v2 a k := fun a k k1 => by
      rw [up_n (by omega), up_n (by omega), up_n (by omega), up_n (by omega)]
    have V91 : ∀ k, 6 ≤ k → up_ (up_ (up_ (up_ v2 1 2 y) 1 1 0) 1 4 (88 - q)) 1 5 q 1 k = v2 1 k := fun k k1 => by
      rw [up_n (by omega), up_n (by omega), up_n (by omega), up_n (by omega)]
    have e11 : up_ (up_ (up_ (up_ v2 1 2 y) 1 1 0) 1 4 (88 - q)) 1 5 q 1 1 = 0 := by rw [up_n (by omega), up_n (by omega), up_s ⟨rfl, rfl⟩]
    have e12 : up_ (up_ (up_ (up_ v2 1 2 y) 1 1 0) 1 4 (88 - q)) 1 5 q 1 2 = y := by rw [up_n (by omega), up_n (by omega), up_n (by omega), up_s ⟨rfl, rfl⟩]
    have e14 : up_ (up_ (up_ (up_ v2 1 2 y) 1 1 0) 1 4 (88 - q)) 1 5 q 1 4 = 88 - q := by rw [up_n (by omega), up_s ⟨rfl, rfl⟩]
    have e15 : up_ (up_ (up_ (up_ v2 1 2 y) 1 1 0) 1 4 (88 - q)) 1 5 q 1 5 = q := up_s ⟨rfl, rfl⟩
    generalize up_ (up_ (up_ (up_ v2 1 2 y) 1 1 0) 1 4 (88 - q)) 1 5 q = v9 at V9 V91 e11 e12 e14 e15 ⊢
    have PC9 : CP_ v9 (88 - q) (pgm_ w2 (1 - vr 814 18)) := CP_fr PW PC (fun a k k1 k2 _ => V9 a k (by omega))
    obtain ⟨vf, x0, x1, x2, x3, x4, x5, x6, x7, x8⟩ := cls_S hp' PW PC9 e14
    rw [x0]
    refine ⟨0, vf, wf, rfl, rfl, read_X h2 h3 hp' hi e11 e12 e14 (by rw [e15]; omega) (fun a k k1 k2 k3 k4 k5 => by rw [V9 a k k5]; exact V a k k1 k2 k3 k4) W w22 PW PC9 (fun t t0 t1 => by rw [V9 _ _ (by omega), V9 _ _ (by omega)]; exact PU t t0 t1) x1 x2 x3 x4 x5 x6 x7 x8 s2 s3 s4 s5 s6 s7 s8 s9 s10, fun a k k1 => ?_, fun a k k1 => ?_⟩
    · rw [x1 _ _ (by omega) (by omega) (by omega) (by omega) (by omega), V9 _ _ (by omega)]
      exact V a k (by omega) (by omega) (by omega) (by omega)
    · rw [s2 _ _ (by omega) (by omega) (by omega) (by omega)]
      exact W a k (by omega) (by omega) (by omega) (by omega) (nhf_ (by omega))
theorem all_T : All_ RX_ := all_ok read_T
