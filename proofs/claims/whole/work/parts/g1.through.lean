/-! layer 2: through a trace, in both -/
def Fz_ (vr w : V_) : Prop := ∀ a k, ¬ (839 ≤ a ∧ a ≤ 842) → ¬ (864 ≤ a ∧ a ≤ 868) → ¬ (a = 814 ∧ ((40 ≤ k ∧ k ≤ 46) ∨ k = 75 ∨ k = 76)) → w a k = vr a k
def TR_ (vc vr : V_) : Prop := vc 807 5 = vr 814 45 ∧ vc 807 6 = vr 814 46 ∧ vc 807 7 = vr 814 75 ∧ vc 807 8 = vr 814 76
theorem clear67_e {t x2 x3 : Int} (v : V_) : ∃ w, fX12_traceDone_33 fu_ 814 t x2 x3 0 v = fX12_traceDone_57 fu_ 814 t x2 x3 0 w ∧ (∀ a k, a ≠ 867 → w a k = v a k) ∧ ∀ k, 0 ≤ k → k < 34 → w 867 k = 0 := by
  obtain ⟨w, e, -, h1, h2⟩ := lp_s (σ := V_) (F := fun n i s => fX12_traceDone_33 n 814 t x2 x3 i s) (K := fun s => fX12_traceDone_57 fu_ 814 t x2 x3 0 s) (e := 34) (I := fun i s => 0 ≤ i ∧ (∀ a k, a ≠ 867 → s a k = v a k) ∧ ∀ k, 0 ≤ k → k < i → s 867 k = 0) (fun n i s h hi => by
    obtain ⟨i0, a1, a2⟩ := h
    rw [fX12_traceDone_33, if_neg (by omega), ck_t (by omega), lt_d, lt_d, wr_id (by omega)]
    dsimp only [Int.reduceAdd]
    refine ⟨_, rfl, by omega, fun a k h => (up_n (by omega)).trans (a1 a k h), fun k k0 k1 => ?_⟩
    by_cases c : k = i
    · rw [up_s ⟨rfl, c⟩]
    · rw [up_n (by omega)]
      exact a2 k k0 (by omega)) (fun n s _ => by
    rw [fX12_traceDone_33, if_pos (by decide)]) 34 fu_ 0 v ⟨by decide, fun _ _ _ => rfl, fun k k0 k1 => by omega⟩ (by decide) (by decide)
  exact ⟨w, e, h1, h2⟩
theorem through_T {g vc vr : V_} {L : Int → Int} {t m n p : Int} (hw : WF_ g) (hg : RG_ g) (ht : 0 ≤ t ∧ t < 8) (hP : PT_ g L t m vc vr) (hB : BT_ g t n vc vr) (hC : C_ vc p g) (hD : D_ vr g) (hR : RC_ vc 807 vr) (h4 : vc 807 4 = 0) (hT : TR_ vc vr) (hb : 0 ≤ vr 814 46 ∧ vr 814 46 + n ≤ 200) : ∃ vc' vr' nx, fX6_goThrough 807 (200 + 75 * t) p vc = some (0, vc') ∧ fX12_traceDone 814 t vr = some (nx, vr') ∧ Fa_ 807 vc vc' ∧ Fz_ vr vr' ∧ TR_ vc' vr' ∧ (vr 814 46 + 1 ≤ vr' 814 46 ∧ vr' 814 46 ≤ vr 814 46 + n) ∧ ((nx = -3 ∧ vc' 807 4 = 1 ∧ vc' 807 9 = -1) ∨ (NX_ (g 0 0) (vc' 807 9) nx ∧ RC_ vc' 807 vr' ∧ vc' 807 4 = 0)) := by
  have n14 := hB.1
  have hm := hP.1.1.2.2
  obtain ⟨t5, t6, t7, t8⟩ := hT
  unfold fX6_goThrough fX12_traceDone
  rw [lt_d, lt_d, lt_d, lt_d, lt_d, lt_d]
  -- the class begins
  have s1 : ∀ a k, ¬ (a = 807 ∧ (k = 7 ∨ k = 11)) → up_ (up_ vc 807 7 (wr_ (vc 807 7 + 1))) 807 11 0 a k = vc a k := fun a k h => by rw [up_n (by omega), up_n (by omega)]
  have s2 : up_ (up_ vc 807 7 (wr_ (vc 807 7 + 1))) 807 11 0 807 7 = wr_ (vc 807 7 + 1) := by rw [up_n (by omega), up_s ⟨rfl, rfl⟩]
  have s3 : up_ (up_ vc 807 7 (wr_ (vc 807 7 + 1))) 807 11 0 807 11 = 0 := up_s ⟨rfl, rfl⟩
  generalize up_ (up_ vc 807 7 (wr_ (vc 807 7 + 1))) 807 11 0 = uc at s1 s2 s3 ⊢
  -- the reference begins
  have e46 : up_ vr 814 75 (wr_ (vr 814 75 + 1)) 814 46 = vr 814 46 := up_n (by omega)
  rw [e46, wr_id (show -2147483648 ≤ vr 814 46 + 1 ∧ vr 814 46 + 1 < 2147483648 by omega)]
  obtain ⟨ur, e1, r1, r2⟩ := clear67_e (t := t) (x2 := vr 814 45) (x3 := vr 814 46) (up_ (up_ vr 814 75 (wr_ (vr 814 75 + 1))) 814 46 (vr 814 46 + 1))
  rw [e1]
  have q1 : ∀ a k, a ≠ 867 → ¬ (a = 814 ∧ (k = 46 ∨ k = 75)) → ur a k = vr a k := fun a k h h2 => by rw [r1 a k h, up_n (by omega), up_n (by omega)]
  have q2 : ur 814 46 = vr 814 46 + 1 := by rw [r1 _ _ (by omega), up_s ⟨rfl, rfl⟩]
  have q3 : ur 814 75 = wr_ (vr 814 75 + 1) := by rw [r1 _ _ (by omega), up_n (by omega), up_s ⟨rfl, rfl⟩]
  clear e1 r1 e46
  have hP1 : PT_ g L t m uc ur := PT_g ht hP (fun a k h => s1 _ _ (by omega)) (fun a k h h2 => q1 _ _ (by omega) (by omega))
  have hR1 : RC_ uc 807 ur := RC_fr hR (fun k => s1 _ _ (by omega)) (fun k => s1 _ _ (by omega)) (fun k => q1 _ _ (by omega) (by omega)) (fun k => q1 _ _ (by omega) (by omega))
  rcases cycles_T ht hP1 hR1 ((s1 _ _ (by omega)).trans h4) s3 (fun j j0 j1 => r2 j j0 (by omega)) (vr 814 45) (vr 814 46) with ⟨u, w, f1, f2, z1, z2, z3, z4, z5⟩ | ⟨u, w, f1, f2, z⟩
  · rw [z1, bd_s, z2]
    dsimp only
    rw [if_pos rfl]
    have U : ∀ a k, a ≠ 808 → a ≠ 809 → a ≠ 812 → a ≠ 813 → ¬ (a = 807 ∧ (k = 4 ∨ k = 7 ∨ k = 9 ∨ k = 10 ∨ k = 11)) → u a k = vc a k := fun a k h1 h2 h3 h5 h6 => (f1 a k h1 h2 h3 h5 (by omega)).trans (s1 a k (by omega))
    have W : ∀ a k, a ≠ 839 → a ≠ 840 → ¬ (864 ≤ a ∧ a ≤ 868) → ¬ (a = 814 ∧ ((40 ≤ k ∧ k ≤ 42) ∨ k = 46 ∨ k = 75)) → w a k = vr a k := fun a k h1 h2 h3 h5 => (f2 a k h1 h2 h3 (by omega)).trans (q1 a k (by omega) (by omega))
    have hPu : PT_ g L t m u w := PT_g ht hP (fun a k h => U _ _ (by omega) (by omega) (by omega) (by omega) (by omega)) (fun a k h h2 => W _ _ (by omega) (by omega) (by omega) (by omega))
    have hBu : BT_ g t n u w := BT_fr hB (fun a k h => U _ _ (by omega) (by omega) (by omega) (by omega) (by omega)) (fun a k h h2 => W _ _ (by omega) (by omega) (by omega) (by omega))
    have hCu : C_ u p g := C_fr hw hC (fun a k a0 a1 => U _ _ (by omega) (by omega) (by omega) (by omega) (by omega)) (fun k _ _ => U _ _ (by omega) (by omega) (by omega) (by omega) (by omega))
    have hDu : D_ w g := D_fr hD (W _ _ (by omega) (by omega) (by omega) (by omega)) (fun a k a0 a1 => W _ _ (by omega) (by omega) (by omega) (by omega)) (fun k _ _ => W _ _ (by omega) (by omega) (by omega) (by omega))
    have e58 : ur 858 (34 * t + (m - 1)) = w 858 (34 * t + (m - 1)) := (f2 _ _ (by omega) (by omega) (by omega) (by omega)).symm
    rw [e58]
    obtain ⟨u', w', nx, g1, g2, g3, g4, g5, g6, g7, g8, g9, g10, g11⟩ := gone_end (x3 := vr 814 46) (y := w 814 45) hw ht hPu hBu hCu hDu z4 z3 z5
    have u5 : u 807 5 = vr 814 45 := (U _ _ (by omega) (by omega) (by omega) (by omega) (by omega)).trans t5
    have w5 : w 814 45 = vr 814 45 := W _ _ (by omega) (by omega) (by omega) (by omega)
    have u6 : u 807 6 = vr 814 46 := (U _ _ (by omega) (by omega) (by omega) (by omega) (by omega)).trans t6
    rw [wr_id (by omega)] at g5 g6
    refine ⟨u', w', nx, g1, g2, fun a k h => ?_, fun a k h1 h2 h3 => ?_, ⟨?_, ?_, ?_, ?_⟩, by omega, Or.inr ⟨g7, g8, g9⟩⟩
    · rw [g10 a k (by omega) (by omega)]
      exact U a k (by omega) (by omega) (by omega) (by omega) (by omega)
    · rw [g11 a k (by omega)]
      exact W a k (by omega) (by omega) h2 (by omega)
    · rw [g3, g4, u5, w5]
    · rw [g5, g6, u6]
    · rw [g10 _ _ (by omega) (by omega), g11 _ _ (by omega), f1 _ _ (by omega) (by omega) (by omega) (by omega) (by omega), f2 _ _ (by omega) (by omega) (by omega) (by omega), s2, q3, t7]
    · rw [g10 _ _ (by omega) (by omega), g11 _ _ (by omega), f1 _ _ (by omega) (by omega) (by omega) (by omega) (by omega), f2 _ _ (by omega) (by omega) (by omega) (by omega), s1 _ _ (by omega), q1 _ _ (by omega) (by omega), t8]
  · have U : ∀ a k, a ≠ 808 → a ≠ 809 → a ≠ 812 → a ≠ 813 → ¬ (a = 807 ∧ (k = 4 ∨ k = 7 ∨ k = 9 ∨ k = 10 ∨ k = 11)) → u a k = vc a k := fun a k h1 h2 h3 h5 h6 => (f1 a k h1 h2 h3 h5 (by omega)).trans (s1 a k (by omega))
    have W : ∀ a k, a ≠ 839 → a ≠ 840 → ¬ (864 ≤ a ∧ a ≤ 868) → ¬ (a = 814 ∧ ((40 ≤ k ∧ k ≤ 42) ∨ k = 46 ∨ k = 75)) → w a k = vr a k := fun a k h1 h2 h3 h5 => (f2 a k h1 h2 h3 (by omega)).trans (q1 a k (by omega) (by omega))
    have u5 : u 807 5 = vr 814 45 := (U _ _ (by omega) (by omega) (by omega) (by omega) (by omega)).trans t5
    have w5 : w 814 45 = vr 814 45 := W _ _ (by omega) (by omega) (by omega) (by omega)
    have u6 : u 807 6 = vr 814 46 := (U _ _ (by omega) (by omega) (by omega) (by omega) (by omega)).trans t6
    have w6 : w 814 46 = vr 814 46 + 1 := (f2 _ _ (by omega) (by omega) (by omega) (by omega)).trans q2
    have u7 : u 807 7 = wr_ (vc 807 7 + 1) := (f1 _ _ (by omega) (by omega) (by omega) (by omega) (by omega)).trans s2
    have w7 : w 814 75 = wr_ (vr 814 75 + 1) := (f2 _ _ (by omega) (by omega) (by omega) (by omega)).trans q3
    have u8 : u 807 8 = vr 814 76 := (U _ _ (by omega) (by omega) (by omega) (by omega) (by omega)).trans t8
    have w8 : w 814 76 = vr 814 76 := W _ _ (by omega) (by omega) (by omega) (by omega)
    dsimp only at z
    rcases z with ⟨z1, z2, z3, z4⟩ | ⟨r, z1, z2, z3⟩
    · rw [z1, bd_s, z2]
      dsimp only
      rw [if_pos rfl]
      unfold fX6_goThrough_50
      rw [if_pos z3, lt_d]
      refine ⟨_, w, -3, rfl, rfl, fun a k h => ?_, fun a k h1 h2 h3 => W a k (by omega) (by omega) h2 (by omega), ⟨?_, ?_, ?_, ?_⟩, by omega, Or.inl ⟨rfl, (up_n (by omega)).trans z3, (up_n (by omega)).trans z4⟩⟩
      · rw [up_n (by omega)]
        exact U a k (by omega) (by omega) (by omega) (by omega) (by omega)
      · rw [up_n (by omega), u5, w5]
      · rw [up_s ⟨rfl, rfl⟩, u6, w6, wr_id (by omega)]
      · rw [up_n (by omega), u7, w7, t7]
      · rw [up_n (by omega), u8, w8]
    · have r0 := z3.1
      have z4 : u 807 4 = 0 := z3.2.2.2.2
      rw [z1, bd_s, z2]
      dsimp only
      rw [if_neg (show ¬ r = -1 by omega), if_neg (show ¬ u 807 4 = 1 by omega), lt_d]
      have hPu : PT_ g L t m u w := PT_g ht hP (fun a k h => U _ _ (by omega) (by omega) (by omega) (by omega) (by omega)) (fun a k h h2 => W _ _ (by omega) (by omega) (by omega) (by omega))
      have hBu : BT_ g t n u w := BT_fr hB (fun a k h => U _ _ (by omega) (by omega) (by omega) (by omega) (by omega)) (fun a k h h2 => W _ _ (by omega) (by omega) (by omega) (by omega))
      have hDu : D_ w g := D_fr hD (W _ _ (by omega) (by omega) (by omega) (by omega)) (fun a k a0 a1 => W _ _ (by omega) (by omega) (by omega) (by omega)) (fun k _ _ => W _ _ (by omega) (by omega) (by omega) (by omega))
      obtain ⟨u', w', nx, g1, g2, g3, g4, g5, g6, g7, g8⟩ := gone_early (p := p) (x2 := vr 814 45) (x3 := vr 814 46) hw hg ht hPu hBu hDu z3 (u5.trans w5.symm) w5.symm
      refine ⟨u', w', nx, g1, g2, fun a k h => ?_, fun a k h1 h2 h3 => ?_, ⟨g5, ?_, ?_, ?_⟩, ?_, ?_⟩
      · rw [g7 a k (by omega) (by omega) (by omega)]
        exact U a k (by omega) (by omega) (by omega) (by omega) (by omega)
      · rw [g8 a k (by omega) (by omega) (by omega) (by omega) (by omega) (by omega) (by omega)]
        exact W a k (by omega) (by omega) h2 (by omega)
      · rcases g6 with ⟨-, -, -, y4, y5⟩ | ⟨i, i0, y4, y5, -⟩
        · rw [y4, y5, u6, w6, wr_id (by omega)]
        · rw [y4, y5, u6, wr_id (by omega), wr_id (show -2147483648 ≤ vr 814 46 + i ∧ vr 814 46 + i < 2147483648 by omega), wr_id (by omega)]
          omega
      · rw [g7 _ _ (by omega) (by omega) (by omega), g8 _ _ (by omega) (by omega) (by omega) (by omega) (by omega) (by omega) (by omega), u7, w7, t7]
      · rw [g3, g4, u8, w8]
      · rcases g6 with ⟨-, -, -, y4, y5⟩ | ⟨i, i0, y4, y5, -⟩
        · omega
        · rw [wr_id (show -2147483648 ≤ vr 814 46 + i ∧ vr 814 46 + i < 2147483648 by omega), wr_id (by omega)] at y5
          omega
      · rcases g6 with ⟨y1, y2, y3, -⟩ | ⟨i, i0, -, -, y1, y2, y3⟩
        · exact Or.inl ⟨y1, y2, y3⟩
        · exact Or.inr ⟨y1, y2, y3⟩
