/-! layer 2: run, in both, on -/
theorem crun_T (v : V_) (how : Int) : ∃ u, (if how = 0 then bd_ (fX7_goOnFrom 140 801 802 v) fun q16 => fX11_run_40 1 800 how q16.2 else fX11_run_40 1 800 how v) = some (how, u) ∧ u 1 11 = 0 ∧ u 1 12 = 0 ∧ u 1 13 = 0 ∧ (∀ a k, a ≠ 141 → ¬ (a = 1 ∧ 11 ≤ k ∧ k ≤ 13) → u a k = v a k) ∧ ∀ k, 0 ≤ k → k < 47 → u 141 k = rr_ how (v 141) (v 801) (v 802) (v 803) (v 804) k := by
  have step : ∀ x, ∃ u, fX11_run_40 1 800 how x = some (how, u) ∧ u 1 11 = 0 ∧ u 1 12 = 0 ∧ u 1 13 = 0 ∧ (∀ a k, a ≠ 141 → ¬ (a = 1 ∧ 11 ≤ k ∧ k ≤ 13) → u a k = x a k) ∧ (∀ k, ¬ (14 ≤ k ∧ k < 38) → u 141 k = x 141 k) ∧ (∀ k, 0 ≤ k → k < 8 → u 141 (14 + k) = cn_ (x 141 (14 + k)) (x 803 k)) ∧ ∀ k, 0 ≤ k → k < 16 → u 141 (22 + k) = cn_ (x 141 (22 + k)) (x 804 k) := fun x => by
    obtain ⟨u, e, h1, h2, h3⟩ := cadd_T x
    unfold fX11_run_40 fX11_forgetAll fX11_forgetRuns
    simp only [Int.reduceAdd]
    rw [e, bd_s, lt_d, lt_d, lt_d, bd_s, bd_s]
    dsimp only
    refine ⟨_, rfl, ?_, ?_, up_s ⟨rfl, rfl⟩, fun a k q q2 => ?_, fun k q => ?_, fun k k0 k1 => ?_, fun k k0 k1 => ?_⟩
    · rw [up_n (by omega), up_n (by omega), up_s ⟨rfl, rfl⟩]
    · rw [up_n (by omega), up_s ⟨rfl, rfl⟩]
    · rw [up_n (by omega), up_n (by omega), up_n (by omega)]
      exact h1 a k (by omega)
    · rw [up_n (by omega), up_n (by omega), up_n (by omega)]
      exact h1 _ k (by omega)
    · rw [up_n (by omega), up_n (by omega), up_n (by omega)]
      exact h2 k k0 k1
    · rw [up_n (by omega), up_n (by omega), up_n (by omega)]
      exact h3 k k0 k1
  by_cases z : how = 0
  · rw [if_pos z]
    unfold fX7_goOnFrom
    simp only [Int.reduceAdd]
    rw [lt_d, lt_d, bd_s]
    dsimp only
    have g1 : ∀ a k, ¬ (a = 141 ∧ 0 ≤ k ∧ k < 14) → cp_ (cp_ v 801 0 141 0 6) 802 0 141 6 8 a k = v a k := fun a k q => by rw [cp_o (by omega), cp_o (by omega)]
    have g2 : ∀ k, 0 ≤ k → k < 6 → cp_ (cp_ v 801 0 141 0 6) 802 0 141 6 8 141 k = v 801 k := fun k k0 k1 => by
      rw [cp_o (by omega), cp_i ⟨rfl, by omega, by omega⟩, show 0 + (k - 0) = k by omega]
    have g3 : ∀ k, 6 ≤ k → k < 14 → cp_ (cp_ v 801 0 141 0 6) 802 0 141 6 8 141 k = v 802 (k - 6) := fun k k0 k1 => by
      rw [cp_i ⟨rfl, by omega, by omega⟩, cp_o (by omega), show 0 + (k - 6) = k - 6 by omega]
    generalize cp_ (cp_ v 801 0 141 0 6) 802 0 141 6 8 = x at g1 g2 g3 ⊢
    obtain ⟨u, e, u1, u2, u3, h0, h1, h2, h3⟩ := step x
    refine ⟨u, e, u1, u2, u3, fun a k q q2 => (h0 a k q q2).trans (g1 a k (by omega)), fun k k0 k1 => ?_⟩
    unfold rr_
    rw [if_pos z, if_pos z]
    by_cases y1 : k < 6
    · rw [if_pos y1, h1 _ (by omega)]
      exact g2 k k0 y1
    · rw [if_neg y1]
      by_cases y2 : k < 14
      · rw [if_pos y2, h1 _ (by omega)]
        exact g3 k (by omega) y2
      · rw [if_neg y2]
        by_cases y3 : k < 22
        · have := h2 (k - 14) (by omega) (by omega)
          rw [show 14 + (k - 14) = k by omega, g1 141 _ (by omega), g1 803 _ (by omega)] at this
          rw [if_pos y3]
          exact this
        · rw [if_neg y3]
          by_cases y4 : k < 38
          · have := h3 (k - 22) (by omega) (by omega)
            rw [show 22 + (k - 22) = k by omega, g1 141 _ (by omega), g1 804 _ (by omega)] at this
            rw [if_pos y4]
            exact this
          · rw [if_neg y4, h1 _ (by omega), g1 _ _ (by omega)]
  · rw [if_neg z]
    obtain ⟨u, e, u1, u2, u3, h0, h1, h2, h3⟩ := step v
    refine ⟨u, e, u1, u2, u3, h0, fun k k0 k1 => ?_⟩
    unfold rr_
    rw [if_neg z, if_neg z]
    by_cases y1 : k < 6
    · rw [if_pos y1, h1 _ (by omega)]
    · rw [if_neg y1]
      by_cases y2 : k < 14
      · rw [if_pos y2, h1 _ (by omega)]
      · rw [if_neg y2]
        by_cases y3 : k < 22
        · have := h2 (k - 14) (by omega) (by omega)
          rw [show 14 + (k - 14) = k by omega] at this
          rw [if_pos y3]
          exact this
        · rw [if_neg y3]
          by_cases y4 : k < 38
          · have := h3 (k - 22) (by omega) (by omega)
            rw [show 22 + (k - 22) = k by omega] at this
            rw [if_pos y4]
            exact this
          · rw [if_neg y4, h1 _ (by omega)]
theorem cn_b {x y : Int} (hx : 0 ≤ x ∧ x ≤ 1000000) (hy : 0 ≤ y ∧ y ≤ 200) : 0 ≤ cn_ x y ∧ cn_ x y ≤ 1000000 := by
  unfold cn_
  rw [wr_id (by omega)]
  split <;> omega
/-- what a run leaves -/
def RU_ (vc vr vc' vr' : V_) : Prop := RS_ vc' vr' ∧ vr' 814 69 = 0 ∧ vc' 1 11 = 0 ∧ vc' 1 12 = 0 ∧ vc' 1 13 = 0 ∧ (∀ a k, a < 141 ∨ 814 ≤ a → ¬ (a = 1 ∧ 11 ≤ k ∧ k ≤ 13) → vc' a k = vc a k) ∧ ∀ a k, a < 837 → ¬ (a = 814 ∧ ((40 ≤ k ∧ k ≤ 46) ∨ k = 69 ∨ k = 77)) → vr' a k = vr a k
theorem run_Q {g vc vr : V_} {p : Int} (h : CX_ g p vc vr) (hS : RS_ vc vr) : ∃ r vc' vr', fX11_run 1 vc = some (r, vc') ∧ fX12_run 814 vr = some (r, vr') ∧ RU_ vc vr vc' vr' := by
  have h' := h
  obtain ⟨hw, hg, hC, hp, hF, hD, hr, hA⟩ := h'
  obtain ⟨vc1, e1, ⟨-, -, C1, -, -, -, r1, A1⟩, e3, e4⟩ := slow_X h
  have r38 : ∀ k, 0 ≤ k → k < 47 → cp_ vr 837 0 838 0 47 838 k = vr 837 k := fun k k0 k1 => by
    rw [cp_i ⟨rfl, k0, by omega⟩]
    congr 1
    omega
  obtain ⟨how, w, s1, ⟨s2, sh, -, -, s5, s6, s7⟩, s8⟩ := e3 _ hD (fun k k0 k1 => by
    rw [r38 k k0 (by omega)]
    exact (r1 k k0 k1).1.symm)
  replace s5 : ∀ k, 0 ≤ k → k < 8 → vc1 803 k = w 841 k ∧ 0 ≤ w 841 k ∧ w 841 k ≤ 200 := s5
  replace s6 : ∀ k, 0 ≤ k → k < 16 → vc1 804 k = w 842 k ∧ 0 ≤ w 842 k ∧ w 842 k ≤ 200 := s6
  replace s7 : how = 0 → (∀ k, 0 ≤ k → k < 12 → vc1 801 k = w 839 k ∧ iR_ (w 839 k)) ∧ ∀ k, 0 ≤ k → k < 8 → vc1 802 k = w 840 k ∧ iR_ (w 840 k) := s7
  have W : ∀ a k, a ≠ 838 → a < 839 ∨ 842 < a → ¬ (a = 814 ∧ 40 ≤ k ∧ k ≤ 46) → w a k = vr a k := fun a k q q2 q3 => (s8 a k q2 q3).trans (cp_o (by omega))
  have w38 : ∀ k, 0 ≤ k → k < 47 → w 838 k = vr 837 k := fun k k0 k1 => (s8 _ _ (by omega) (by omega)).trans (r38 k k0 k1)
  obtain ⟨hRW, hRH, hRK⟩ := hS
  have RW1 : RW_ vc1 141 w 837 0 := RW_eq hRW (fun k _ _ => e4 _ _ (by omega) (by omega)) (fun k _ _ => W _ _ (by omega) (by omega) (by omega))
  have RH1 : RH_ vc1 w := RH_eq hRH (fun b k q => e4 _ _ (by omega) (by omega)) (fun k => W _ _ (by omega) (by omega) (by omega)) (W _ _ (by omega) (by omega) (by omega))
  have RK1 : RK_ vc1 w := RK_eq hRK (fun b k q => e4 _ _ (by omega) (by omega)) (fun b k q => W _ _ (by omega) (by omega) (by omega))
  obtain ⟨z, t1, t2, t3⟩ := rrun_T w how
  obtain ⟨vc2, vr2, n1, n2, n3, n4, n5, n6, n7⟩ := note_T RH1 RW1 t2
  obtain ⟨u, c1, c11, c12, c13, c2, c3⟩ := crun_T vc2 how
  have N : ∀ a k, a = 141 ∨ 184 ≤ a → vc2 a k = vc1 a k := fun a k q => n4 a k (by omega) (by omega)
  -- the row
  have rowc : ∀ k, 0 ≤ k → k < 47 → u 141 k = rr_ how (vc 141) (vc1 801) (vc1 802) (vc1 803) (vc1 804) k := fun k k0 k1 => by
    rw [c3 k k0 k1]
    have f : ∀ a, a = 141 ∨ 184 ≤ a → vc2 a = vc1 a := fun a q => funext fun k => N a k q
    have f2 : vc1 141 = vc 141 := funext fun k => e4 _ _ (by omega) (by omega)
    rw [f 141 (by omega), f2, f 801 (by omega), f 802 (by omega), f 803 (by omega), f 804 (by omega)]
  obtain ⟨ro1, ro2, ro3, ro4, ro5⟩ := hRW.1
  have hRO : RO_ (u 141) := by
    refine ⟨?_, fun k k0 k1 => ?_, fun k k0 k1 => ?_, fun k k0 k1 => ?_, fun k k0 k1 => ?_⟩
    · rw [rowc _ (by omega) (by omega)]
      exact ro1
    · rw [rowc _ k0 (by omega)]
      unfold rr_
      by_cases y1 : k < 6
      · rw [if_pos y1]
        by_cases z : how = 0
        · rw [if_pos z, ((s7 z).1 k k0 (by omega)).1]
          exact ((s7 z).1 k k0 (by omega)).2
        · rw [if_neg z]
          exact ro2 k k0 k1
      · rw [if_neg y1, if_pos k1]
        by_cases z : how = 0
        · rw [if_pos z, ((s7 z).2 (k - 6) (by omega) (by omega)).1]
          exact ((s7 z).2 (k - 6) (by omega) (by omega)).2
        · rw [if_neg z]
          exact ro2 k k0 k1
    · rw [rowc _ (by omega) (by omega)]
      unfold rr_
      rw [if_neg (by omega), if_neg (by omega)]
      by_cases y3 : k < 22
      · have := s5 (k - 14) (by omega) (by omega)
        rw [if_pos y3]
        exact cn_b (ro3 k k0 k1) (by omega)
      · have := s6 (k - 22) (by omega) (by omega)
        rw [if_neg y3, if_pos (by omega)]
        exact cn_b (ro3 k k0 k1) (by omega)
    · rw [rowc _ (by omega) (by omega)]
      unfold rr_
      rw [if_neg (by omega), if_neg (by omega), if_neg (by omega), if_neg (by omega)]
      exact ro4 k k0 k1
    · rw [rowc _ (by omega) (by omega)]
      unfold rr_
      rw [if_neg (by omega), if_neg (by omega), if_neg (by omega), if_neg (by omega)]
      exact ro5 k k0 k1
  have hRow : ∀ k, 0 ≤ k → k < 47 → vr2 837 (0 + pm_ k) = u 141 k := fun k k0 k1 => by
    have pb := pm_b ⟨k0, k1⟩
    have eq := hRW.2 k k0 k1
    rw [Int.zero_add] at eq ⊢
    rw [n7 _ (by omega) (by omega), t3 _ (by omega) (by omega), rowc k k0 k1]
    by_cases c : k < 38
    · have pk : pm_ k = k := if_pos c
      rw [pk] at eq ⊢
      have ew : w 838 k = vc 141 k := (w38 k k0 k1).trans eq
      unfold rr_
      rw [ew]
      by_cases y1 : k < 6
      · rw [if_pos y1, if_pos y1]
        by_cases z : how = 0
        · rw [if_pos z, if_pos z]
          exact ((s7 z).1 k k0 (by omega)).1.symm
        · rw [if_neg z, if_neg z]
      · rw [if_neg y1, if_neg y1]
        by_cases y2 : k < 14
        · rw [if_pos y2, if_pos y2]
          by_cases z : how = 0
          · rw [if_pos z, if_pos z]
            exact ((s7 z).2 (k - 6) (by omega) (by omega)).1.symm
          · rw [if_neg z, if_neg z]
        · rw [if_neg y2, if_neg y2]
          by_cases y3 : k < 22
          · rw [if_pos y3, if_pos y3, ← (s5 (k - 14) (by omega) (by omega)).1]
          · rw [if_neg y3, if_neg y3, if_pos c, if_pos c, ← (s6 (k - 22) (by omega) (by omega)).1]
    · have pk : 38 ≤ pm_ k ∧ pm_ k < 47 := by
        unfold pm_
        rw [if_neg c]
        split <;> omega
      unfold rr_
      rw [if_neg (show ¬ pm_ k < 6 by omega), if_neg (show ¬ pm_ k < 14 by omega), if_neg (show ¬ pm_ k < 22 by omega), if_neg (show ¬ pm_ k < 38 by omega), if_neg (show ¬ k < 6 by omega), if_neg (show ¬ k < 14 by omega), if_neg (show ¬ k < 22 by omega), if_neg c, w38 _ (by omega) pk.2]
      exact eq
  unfold fX11_run fX12_run
  rw [e1, bd_s, lt_d, copies_e, bd_s]
  try dsimp only
  rw [s1, bd_s]
  try dsimp only
  rw [t1, n2, bd_s]
  simp only [Int.reduceAdd]
  rw [n1, bd_s, s2]
  dsimp only
  refine ⟨how, u, vr2, c1, rfl, ⟨⟨hRO, hRow⟩, RH_eq n3 (fun b k q => c2 b k (by omega) (by omega)) (fun _ => rfl) rfl, RK_eq RK1 (fun b k q => (c2 b k (by omega) (by omega)).trans (N b k (by omega))) (fun b k q => (n5 b k (by omega) (by omega) (by omega)).trans (t2 b k (by omega)))⟩, n6, c11, c12, c13, fun a k q q2 => ?_, fun a k q q2 => ?_⟩
  · rw [c2 a k (by omega) q2, n4 a k (by omega) (by omega)]
    exact e4 a k (by omega) q2
  · rw [n5 a k (by omega) (by omega) (by omega), t2 a k (by omega)]
    exact W a k (by omega) (by omega) (by omega)
