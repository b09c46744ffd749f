/-! layer 2: the plan, whole, in both -/
/-- the plan of both is made from g -/
def PL_ (g : V_) (p : Int) (vc vr : V_) : Prop := TP_ g vc vr ∧ (∃ L, LF_ g L ∧ LB_ g L p vc vr ∧ ∀ s, 0 ≤ s → s < vr 814 52 → ∃ m, PT_ g L s m vc vr) ∧ fX12_joinedBits 814 vr = some (vc 189 1, vr) ∧ JB_ g (vc 189 1) ∧ ∀ k, 0 ≤ k → k < 4 → vc 193 k = g 11 (39 + k)
def LI2_ (g : V_) (L : Int → Int) (t : Int) (c0 r0 vc vr : V_) : Prop := 0 ≤ t ∧ (∀ a k, a < 194 ∨ 800 ≤ a → vc a k = c0 a k) ∧ (∀ a k, ¬ (848 ≤ a ∧ a ≤ 863) → vr a k = r0 a k) ∧ TP_ g vc vr ∧ ∀ s, 0 ≤ s → s < t → ∃ m, PT_ g L s m vc vr
theorem lays_T {g c0 r0 : V_} {L : Int → Int} {p : Int} (hw : WF_ g) (hg : RG_ g) (hC : C_ c0 p g) (hD : D_ r0 g) (hL : LB_ g L p c0 r0) (hT : TP_ g c0 r0) (hU : ∀ k, 0 ≤ k → k < 4 → c0 193 k = g 11 (39 + k)) : ∃ vc vr, fX4_layTraces_26 fu_ 189 p 140 0 c0 = some (0, vc) ∧ fX12_plansAll_27 fu_ 814 0 r0 = some (0, vr) ∧ LI2_ g L (r0 814 52) c0 r0 vc vr := by
  have hn := hw.1
  have hp : 12 ≤ p ∧ p ≤ 76 := by have := hC.1; omega
  have hT' := hT
  obtain ⟨-, t2, -⟩ := hT'
  obtain ⟨⟨vc, vr⟩, e, h⟩ := lp_s (σ := V_ × V_) (α := Option (Int × V_) × Option (Int × V_)) (F := fun n t s => (fX4_layTraces_26 n 189 p 140 t s.1, fX12_plansAll_27 n 814 t s.2)) (K := fun s => (some (0, s.1), some (0, s.2))) (e := r0 814 52) (I := fun t s => LI2_ g L t c0 r0 s.1 s.2) (fun n t ⟨vc, vr⟩ h ht => by
    dsimp only at h ⊢
    obtain ⟨t0, f1, f2, hTP, hP⟩ := h
    have hTP' := hTP
    obtain ⟨a1, a2, a3, a4, a5⟩ := hTP'
    have e52 : vr 814 52 = r0 814 52 := f2 _ _ (by decide)
    obtain ⟨m1, m2, m3⟩ := a4 t t0 (by omega)
    have hC1 : C_ vc p g := C_fr hw hC (fun a k a0 b0 => f1 _ _ (by omega)) (fun k _ _ => f1 _ _ (by decide))
    have hD1 : D_ vr g := D_fr hD (f2 _ _ (by decide)) (fun a k _ _ => f2 _ _ (by omega)) (fun k _ _ => f2 _ _ (by decide))
    have hL1 : LB_ g L p vc vr := fun b b0 b1 => by
      rw [f1 _ _ (by omega), f2 843 _ (by decide)]
      exact hL b b0 b1
    have hTB : TB_ g t (vr 847 t) vc vr := ⟨m1, m2, rfl, fun i i0 i1 => by
      obtain ⟨q1, q2, q3, -, -, -, q7⟩ := m3 i i0 i1
      exact ⟨q1, ⟨q2, q3⟩, q7⟩⟩
    obtain ⟨c1, c2, c3, c4, c5, r1, r2, r3, m, len, e1, e2, e3, e4, e5, e6, e7, e8, hPT, F1, F2⟩ := one_T hw hg (t := t) ⟨t0, by omega⟩ hC1 hD1 hL1 hTB (fun k k0 k1 => (f1 _ _ (by decide)).trans (hU k k0 k1))
    have eN : vc 189 0 = vr 814 52 := a1
    rw [fX4_layTraces_26, if_neg (show ¬ vc 189 0 ≤ t by omega), ck_t (by omega), lt_d, show (189 : Int) + 1 + (10 + 75 * t) = 200 + 75 * t by omega, cren_e hC1, bd_s]
    try dsimp only
    rw [e1, bd_s]
    try dsimp only
    rw [e2, bd_s]
    try dsimp only
    rw [show (189 : Int) + 4 = 193 from rfl, e3, bd_s]
    try dsimp only
    rw [show (189 : Int) + 5 = 194 from rfl, e4, bd_s]
    try dsimp only
    rw [e5, bd_s, lt_d, wr_id (by omega), fX12_plansAll_27, if_neg (show ¬ vr 814 52 ≤ t by omega), e6, bd_s]
    try dsimp only
    rw [e7, bd_s]
    try dsimp only
    rw [e8, bd_s, lt_d, wr_id (by omega)]
    refine ⟨(c5, r3), rfl, by omega, fun a k h => ?_, fun a k h => ?_, ?_, fun s s0 s1 => ?_⟩
    · rw [← f1 a k h]
      exact F1 a k (by omega)
    · rw [← f2 a k h]
      exact F2.1 a k h
    · exact TP_fr hTP (F1 _ _ (by omega)) (fun a k _ _ => F1 a k (by omega)) (fun s k s0 s1 => ⟨F1 _ _ (by omega), F1 _ _ (by omega)⟩) (fun a k _ _ => F2.1 a k (by omega)) (F2.1 _ _ (by decide))
    · rcases (by omega : s < t ∨ s = t) with y | y
      · obtain ⟨m', hm'⟩ := hP s s0 y
        exact ⟨m', PT_fr hm' (fun a k _ _ => F1 a k (by omega)) (fun k => ⟨F2.1 _ _ (by decide), F2.1 _ _ (by decide)⟩) (F2.2.2 s (by omega)) (fun a k q1 q2 q3 q4 => F2.2.1 a k q1 q2 (by omega))⟩
      · rw [y]; exact ⟨m, hPT⟩) (fun n ⟨vc, vr⟩ h => by
    dsimp only at h ⊢
    obtain ⟨t0, f1, f2, ⟨a1, -⟩, -⟩ := h
    have e52 : vr 814 52 = r0 814 52 := f2 _ _ (by decide)
    rw [fX4_layTraces_26, if_pos (show vc 189 0 ≤ r0 814 52 by omega), fX12_plansAll_27, if_pos (show vr 814 52 ≤ r0 814 52 by omega)]) (r0 814 52).toNat fu_ 0 (c0, r0) ⟨by decide, fun _ _ _ => rfl, fun _ _ _ => rfl, hT, fun s s0 s1 => absurd s0 (by omega)⟩ (by omega) (by unfold fu_; omega)
  obtain ⟨e1, e2⟩ := Prod.mk.inj e
  exact ⟨vc, vr, e1, e2, h⟩
theorem unit_T {g vc : V_} {p : Int} (hw : WF_ g) (hC : C_ vc p g) : ∃ w, fX4_layTraces 189 p 140 vc = fX4_layTraces_26 fu_ 189 p 140 0 w ∧ (∀ a k, a ≠ 193 → w a k = vc a k) ∧ ∀ k, 0 ≤ k → k < 4 → w 193 k = g 11 (39 + k) := by
  unfold fX4_layTraces
  obtain ⟨w, e, -, h1, h2⟩ := lp_s (σ := V_) (F := fun n k w => fX4_layTraces_2 n 189 p 140 k w) (K := fun w => fX4_layTraces_26 fu_ 189 p 140 0 w) (e := 4) (I := fun i w => 0 ≤ i ∧ (∀ a k, a ≠ 193 → w a k = vc a k) ∧ ∀ k, 0 ≤ k → k < i → w 193 k = g 11 (39 + k)) (fun n i w h hi => by
    obtain ⟨i0, h1, h2⟩ := h
    have hC1 : C_ w p g := by
      have := hC.1
      exact C_fr hw hC (fun a k a0 a1 => h1 _ _ (by omega)) (fun k _ _ => h1 _ _ (by decide))
    rw [fX4_layTraces_2, if_neg (by omega), cunit_e hC1 ⟨i0, hi⟩, bd_s, ck_t (by omega), lt_d, lt_d, wr_id (by omega)]
    refine ⟨_, rfl, by omega, fun a k q => (up_n (by omega)).trans (h1 a k q), fun k k0 k1 => ?_⟩
    by_cases c : k = i
    · rw [c]; exact up_s ⟨rfl, rfl⟩
    · exact (up_n (by omega)).trans (h2 k k0 (by omega))) (fun n w _ => by
    rw [fX4_layTraces_2, if_pos (by decide)]) 4 fu_ 0 vc ⟨by decide, fun _ _ _ => rfl, fun k k0 k1 => absurd k0 (by omega)⟩ (by decide) (by decide)
  exact ⟨w, e, h1, h2⟩
/-- both plan afresh -/
theorem plan_T {g vc vr : V_} {p : Int} (hw : WF_ g) (hg : RG_ g) (hC : C_ vc p g) (hp : vc 1 4 = p) (hF : LF_ g (vc (p + 5))) (hD : D_ (cp_ vr 837 0 838 0 47) g) (h0 : vc 1 11 = 0) (h1 : vr 814 69 = 0) : ∃ vc' vr', fX11_knownPlan 1 vc = some (189, vc') ∧ fX12_plansAll 814 vr = some (0, vr') ∧ PL_ g p vc' vr' ∧ (∀ a k, a < 189 ∨ 800 ≤ a → ¬ (a = 1 ∧ k = 11) → vc' a k = vc a k) ∧ vc' 1 11 = 1 ∧ (∀ a k, ¬ (843 ≤ a ∧ a ≤ 863) → ¬ (a = 814 ∧ (k = 52 ∨ k = 69)) → vr' a k = cp_ vr 837 0 838 0 47 a k) ∧ vr' 814 69 = 1 := by
  have hpp := hC.1
  have hn := hw.1
  generalize er : cp_ vr 837 0 838 0 47 = r0 at hD ⊢
  have hr69 : r0 814 69 = 0 := by rw [← er, cp_o (by omega)]; exact h1
  -- live, in the reference
  have hD1 : D_ (up_ r0 814 69 1) g := D_fr hD (up_n (by omega)) (fun a k _ _ => up_n (by omega)) (fun k _ _ => up_n (by omega))
  obtain ⟨r2, l1, l2, l3⟩ := rfind_e hw hD1
  have hD2 : D_ r2 g := D_fr hD1 (l2 _ _ (by decide)) (fun a k _ _ => l2 _ _ (by omega)) (fun k _ _ => l2 _ _ (by decide))
  obtain ⟨c1, r3, t1, t2, t3, t4, t5⟩ := traces_T hw hg hC hD2
  have hC1 : C_ c1 p g := C_fr hw hC (fun a k a0 a1 => t4 _ _ (by omega)) (fun k _ _ => t4 _ _ (by decide))
  have hD3 : D_ r3 g := D_fr hD2 (t5 _ _ (by decide) (by decide)) (fun a k _ _ => t5 _ _ (by omega) (by omega)) (fun k _ _ => t5 _ _ (by decide) (by omega))
  obtain ⟨c2, j1, j2, j3, j4⟩ := joined_T hw hC1 hD3 t3
  have hC2 : C_ c2 p g := C_fr hw hC1 (fun a k a0 a1 => j2 _ _ (by omega)) (fun k _ _ => j2 _ _ (by omega))
  obtain ⟨c3, u1, u2, u3⟩ := unit_T hw hC2
  have hC3 : C_ c3 p g := C_fr hw hC2 (fun a k a0 a1 => u2 _ _ (by omega)) (fun k _ _ => u2 _ _ (by decide))
  have T3 : TP_ g c3 r3 := TP_fr t3 (by rw [u2 _ _ (by decide)]; exact j2 _ _ (by decide)) (fun a k _ _ => by rcases (by omega : a = 190 ∨ a = 191 ∨ a = 192) with y | y | y <;> rw [u2 _ _ (by omega)] <;> exact j2 _ _ (by omega)) (fun s k s0 s1 => ⟨by rw [u2 _ _ (by omega)]; exact j2 _ _ (by omega), by rw [u2 _ _ (by omega)]; exact j2 _ _ (by omega)⟩) (fun _ _ _ _ => rfl) rfl
  have hLB : LB_ g (vc (p + 5)) p c3 r3 := fun b b0 b1 => by
    refine ⟨?_, ?_, hF.1.1 b b0 b1⟩
    · rw [u2 _ _ (by omega), j2 _ _ (by omega), t4 _ _ (by omega)]
    · rw [t5 _ _ (by decide) (by omega)]
      exact (LF_u hF l3 b b0 b1).symm
  obtain ⟨c4, r4, y1, y2, y3, f1, f2, y4, y5⟩ := lays_T hw hg hC3 hD3 hLB T3 u3
  have hC4 : C_ c1 p g := hC1
  have hD4 : D_ r4 g := D_fr hD3 (f2 _ _ (by decide)) (fun a k _ _ => f2 _ _ (by omega)) (fun k _ _ => f2 _ _ (by decide))
  -- what is joined, read in the last memory
  have T1 : TP_ g c1 r4 := TP_fr t3 rfl (fun _ _ _ _ => rfl) (fun _ _ _ _ => ⟨rfl, rfl⟩) (fun a k _ _ => f2 a k (by omega)) (f2 _ _ (by decide))
  obtain ⟨c2', j1', -, j3', -⟩ := joined_T hw hC1 hD4 T1
  rw [j1] at j1'
  have ec : c2 = c2' := (Prod.mk.inj (Option.some.inj j1')).2
  rw [← ec] at j3'
  have e4 : vc 1 4 = PA_ ∨ vc 1 4 = PB_ := by rw [hp]; exact hpp
  have d1 : c1 1 4 = p := (t4 _ _ (by decide)).trans hp
  have d2 : c2 1 4 = p := (j2 _ _ (by decide)).trans d1
  unfold fX11_knownPlan fX12_plansAll
  rw [if_pos h0, ck_t e4]
  simp only [Int.reduceAdd]
  rw [hp, t1, bd_s]
  try dsimp only
  rw [ck_t (show c1 1 4 = PA_ ∨ c1 1 4 = PB_ by rw [d1]; exact hpp), d1, j1, bd_s]
  try dsimp only
  rw [ck_t (show c2 1 4 = PA_ ∨ c2 1 4 = PB_ by rw [d2]; exact hpp), d2, u1, y1, bd_s, lt_d, copies_e, bd_s]
  try dsimp only
  rw [er, if_pos hr69, lt_d, l1, bd_s]
  try dsimp only
  rw [t2, bd_s]
  try dsimp only
  refine ⟨_, _, rfl, y2, ⟨?_, ⟨vc (p + 5), hF, fun b b0 b1 => ?_, fun s s0 s1 => ?_⟩, ?_, ?_, fun k k0 k1 => ?_⟩, fun a k q q2 => ?_, up_s ⟨rfl, rfl⟩, fun a k q q2 => ?_, ?_⟩
  · exact TP_fr y4 (up_n (by omega)) (fun a k _ _ => up_n (by omega)) (fun s k _ _ => ⟨up_n (by omega), up_n (by omega)⟩) (fun _ _ _ _ => rfl) rfl
  · rw [up_n (by omega), f1 _ _ (by omega), f2 _ _ (by decide)]
    exact hLB b b0 b1
  · rw [f2 _ _ (by decide)] at s1
    obtain ⟨m, hm⟩ := y5 s s0 s1
    exact ⟨m, PT_fr hm (fun a k _ _ => up_n (by omega)) (fun _ => ⟨rfl, rfl⟩) ⟨rfl, rfl⟩ (fun _ _ _ _ _ _ => rfl)⟩
  · rw [j3', up_n (by omega), f1 _ _ (by decide), u2 _ _ (by decide)]
  · rw [up_n (by omega), f1 _ _ (by decide), u2 _ _ (by decide)]
    exact j4
  · rw [up_n (by omega), f1 _ _ (by decide)]
    exact u3 k k0 k1
  · rw [up_n (by omega), f1 a k (by omega), u2 a k (by omega), j2 a k (by omega), t4 a k q]
  · rw [f2 a k (by omega), t5 a k (by omega) (by omega), l2 a k (by omega), up_n (by omega)]
  · rw [f2 _ _ (by decide), t5 _ _ (by decide) (by decide), l2 _ _ (by decide), up_s ⟨rfl, rfl⟩]
