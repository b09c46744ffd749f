/-! layer 2: a cycle's items set, the two loops -/
theorem SD_step {t c m : Int} {vr : V_} {P P' : Int → Prop} {z x y y' i : Int} (h : SD_ t c m vr P z x y) (hP : ∀ j, P' j ↔ (P j ∨ j = i)) (hl : iln_ vr (34 * t + i)) (e : y' = if z = tk_ vr (34 * t + i) then fd_ vr (34 * t + i) else y) : SD_ t c m vr P' z x y' := by
  by_cases w : z = tk_ vr (34 * t + i)
  · rw [if_pos w] at e
    exact Or.inl ⟨i, (hP i).2 (Or.inr rfl), hl, w.symm, e⟩
  · rw [if_neg w] at e
    rcases h with ⟨j, j1, j2, j3, j4⟩ | ⟨n, q⟩
    · exact Or.inl ⟨j, (hP j).2 (Or.inl j1), j2, j3, e.trans j4⟩
    · refine Or.inr ⟨fun j hj => ?_, e.trans q⟩
      rcases (hP j).1 hj with u | u
      · exact n j u
      · rw [u]; exact fun v => w v.2.symm
theorem SD_skip {t c m : Int} {vr : V_} {P P' : Int → Prop} {z x y i : Int} (h : SD_ t c m vr P z x y) (hP : ∀ j, P' j ↔ (P j ∨ j = i)) (hl : ¬ iln_ vr (34 * t + i)) : SD_ t c m vr P' z x y := by
  rcases h with ⟨j, j1, j2, j3, j4⟩ | ⟨n, q⟩
  · exact Or.inl ⟨j, (hP j).2 (Or.inl j1), j2, j3, j4⟩
  · refine Or.inr ⟨fun j hj => ?_, q⟩
    rcases (hP j).1 hj with u | u
    · exact n j u
    · rw [u]; exact fun v => hl v.1
theorem SD_same {t c m : Int} {vr : V_} {P P' : Int → Prop} {z x y : Int} (h : SD_ t c m vr P z x y) (hP : ∀ j, P' j ↔ P j) : SD_ t c m vr P' z x y := by
  rcases h with ⟨j, j1, j2⟩ | ⟨n, q⟩
  · exact Or.inl ⟨j, (hP j).2 j1, j2⟩
  · exact Or.inr ⟨fun j hj => n j ((hP j).1 hj), q⟩
theorem rset_T {g vc vr w : V_} {L : Int → Int} {t m c : Int} (ht : 0 ≤ t ∧ t < 8) (hP : PT_ g L t m vc vr) (G : Gv_ vr w) (hJ : ∀ j, 0 ≤ j → j < m → vr 858 (34 * t + j) = c → RJ_ t j vr w) : ∃ w', fX12_cycleDone_76 fu_ 814 t c 0 w = some (1, w') ∧ (∀ a k, a ≠ 839 → a ≠ 840 → ¬ (a = 814 ∧ (k = 40 ∨ k = 41)) → w' a k = w a k) ∧ ∀ z, zs_ z → SD_ t c m vr (fun j => 0 ≤ j ∧ j < m ∧ vr 858 (34 * t + j) = c) z (sv_ w 839 840 z) (sv_ w' 839 840 z) := by
  have hm := hP.1.1.2.2
  obtain ⟨w', e, -, h1, h2⟩ := lp_s (σ := V_) (F := fun n i w => fX12_cycleDone_76 n 814 t c i w) (K := fun w => some (1, w)) (e := m) (I := fun i w' => 0 ≤ i ∧ (∀ a k, a ≠ 839 → a ≠ 840 → ¬ (a = 814 ∧ (k = 40 ∨ k = 41)) → w' a k = w a k) ∧ ∀ z, zs_ z → SD_ t c m vr (fun j => 0 ≤ j ∧ j < i ∧ vr 858 (34 * t + j) = c) z (sv_ w 839 840 z) (sv_ w' 839 840 z)) (fun n i u h hi => by
    obtain ⟨i0, F, hS⟩ := h
    have E : ∀ a k, 843 ≤ a → a ≤ 863 → u a k = vr a k := fun a k h1 h2 => (F a k (by omega) (by omega) (by omega)).trans (G a k (by omega) (by omega))
    have hPu : PT_ g L t m vc u := PT_g ht hP (fun _ _ _ => rfl) E
    have e848 : u 848 t = m := hPu.1.1.2.1
    have e858 : u 858 (34 * t + i) = vr 858 (34 * t + i) := E _ _ (by decide) (by decide)
    have e849 : u 849 (34 * t + i) = vr 849 (34 * t + i) := E _ _ (by decide) (by decide)
    have e854 : u 854 (34 * t + i) = vr 854 (34 * t + i) := E _ _ (by decide) (by decide)
    have nx : vr 858 (34 * t + i) = c → ∀ j, (0 ≤ j ∧ j < i + 1 ∧ vr 858 (34 * t + j) = c) ↔ ((0 ≤ j ∧ j < i ∧ vr 858 (34 * t + j) = c) ∨ j = i) := fun q j => ⟨fun ⟨x1, x2, x3⟩ => by
      rcases (by omega : j < i ∨ j = i) with y | y
      · exact Or.inl ⟨x1, y, x3⟩
      · exact Or.inr y, fun x => by
      rcases x with ⟨x1, x2, x3⟩ | x
      · exact ⟨x1, by omega, x3⟩
      · rw [x]; exact ⟨i0, by omega, q⟩⟩
    rw [fX12_cycleDone_76, ck_t ht]
    simp only [Int.reduceAdd]
    rw [if_neg (show ¬ u 848 t ≤ i by omega), ix_ ht ⟨i0, by omega⟩, ck_t (by omega)]
    by_cases q : vr 858 (34 * t + i) = c
    · rw [if_pos (e858.trans q)]
      obtain ⟨J1, J2⟩ := hJ i i0 hi q
      by_cases l : iln_ vr (34 * t + i)
      · obtain ⟨-, s2, s3, -⟩ := J1 l
        have e864 : u 864 i = fd_ vr (34 * t + i) := (F _ _ (by decide) (by decide) (by omega)).trans s2
        have e865 : u 865 i = fc_ vr (34 * t + i) := (F _ _ (by decide) (by decide) (by omega)).trans s3
        have r12 : vr 854 (34 * t + i) < 12 := by
          have hL := (IE_line (hP.2.1 i i0 hi).1 l).1.2.1
          rcases hL with h | h | h <;> omega
        obtain ⟨w2, g1, g2⟩ := sets_l (vr := u) ht ⟨i0, by omega⟩ (by rw [e849]; exact l) (by rw [e854]; exact r12) (by rw [e865]; exact dc_lt _ _)
        rw [g1, bd_s, lt_d, wr_id (by omega)]
        try dsimp only
        refine ⟨w2, rfl, by omega, fun a k h1 h2 h3 => ?_, fun z hz => ?_⟩
        · rw [g2, se_o ⟨h1, h2⟩, up_n (by omega), up_n (by omega)]
          exact F a k h1 h2 h3
        · refine SD_step (hS z hz) (nx q) l ?_
          rw [g2, se_sv (by decide) hz (by rw [e854]; exact r12), e854, e864, e865]
          have sv : sv_ (up_ (up_ u 814 40 (fd_ vr (34 * t + i))) 814 41 (fc_ vr (34 * t + i))) 839 840 z = sv_ u 839 840 z := by
            unfold sv_
            rw [up_n (by omega), up_n (by omega), up_n (by omega), up_n (by omega)]
          rw [sv]
          rfl
      · have k2 : u 849 (34 * t + i) = 2 ∨ u 849 (34 * t + i) = 3 := by
          obtain ⟨-, -, -, -, -, -, -, -, o⟩ := (hPu.2.1 i i0 hi).1
          have l' : ¬ (vr 849 (34 * t + i) = 0 ∨ vr 849 (34 * t + i) = 1) := l
          rcases o with ⟨o, -⟩ | ⟨o, -⟩ | ⟨o, -⟩ | ⟨o, -⟩ <;> omega
        rw [sets_e ht ⟨i0, by omega⟩ k2, bd_s, lt_d, wr_id (by omega)]
        exact ⟨u, rfl, by omega, F, fun z hz => SD_skip (hS z hz) (nx q) l⟩
    · rw [if_neg (fun z => q (e858.symm.trans z)), lt_d, wr_id (by omega)]
      refine ⟨u, rfl, by omega, F, fun z hz => SD_same (hS z hz) fun j => ⟨fun ⟨x1, x2, x3⟩ => ⟨x1, ?_, x3⟩, fun ⟨x1, x2, x3⟩ => ⟨x1, by omega, x3⟩⟩⟩
      rcases (by omega : j < i ∨ j = i) with y | y
      · exact y
      · exact absurd (by rw [← y]; exact x3) q) (fun n u h => by
    have e848 : u 848 t = m := ((h.2.1 _ _ (by decide) (by decide) (by omega)).trans (G _ _ (by decide) (by omega))).trans hP.1.1.2.1
    rw [fX12_cycleDone_76, ck_t ht]
    simp only [Int.reduceAdd]
    rw [if_pos (show u 848 t ≤ m by omega)]) m.toNat fu_ 0 w ⟨by decide, fun _ _ _ _ _ => rfl, fun z _ => Or.inr ⟨fun j hj => absurd hj.1 (by omega), rfl⟩⟩ (by omega) (by unfold fu_; omega)
  exact ⟨w', e, h1, h2⟩
theorem set_c {g u w : V_} {t j : Int} (hE : IE_ g u (207 + 75 * t + 2 * j) w (34 * t + j)) (hk : iln_ w (34 * t + j)) : fX6_settle 807 (207 + 75 * t + 2 * j + 1) (cz_ w (34 * t + j)) (cu_ w (34 * t + j)) u = some (0, se_ u 808 809 (w 854 (34 * t + j)) (fc_ w (34 * t + j)) (fd_ w (34 * t + j))) := by
  obtain ⟨hL, hS⟩ := IE_line hE hk
  rw [cset_e hS hL.2]
  unfold cz_ cu_ fd_ fc_
  rw [se_2 hL.2]
  rfl
theorem set_e {g u w : V_} {t j : Int} (hE : IE_ g u (207 + 75 * t + 2 * j) w (34 * t + j)) (hk : w 849 (34 * t + j) = 2 ∨ w 849 (34 * t + j) = 3) (x y : Int) : fX6_settle 807 (207 + 75 * t + 2 * j + 1) x y u = some (0, u) := by
  obtain ⟨hS, h0, ha, hb⟩ := IE_end hE hk
  have h7 := hS.1
  unfold fX6_settle
  rw [if_neg (by omega), if_pos (show u (207 + 75 * t + 2 * j + 1) 1 < 0 by rw [hS.2.1]; decide)]
