/-! layer 2: a cycle's items set by the class -/
theorem cset_T {g vc vr u : V_} {L : Int → Int} {t m c a e : Int} (ht : 0 ≤ t ∧ t < 8) (hP : PT_ g L t m vc vr) (hG : GP_ t m c a e vc vr) (G : Gu_ vc u) (hQ : ∀ q, a ≤ q → q < e → CQ_ t q vc vr u) (k4 : Int → Int → Int → Int → V_ → Option (Int × V_)) : ∃ u', fX6_goCycles_70 k4 fu_ 807 (200 + 75 * t) a c e a u = fX6_goCycles_70 k4 1 807 (200 + 75 * t) a c e e u' ∧ (∀ b k, b ≠ 808 → b ≠ 809 → u' b k = u b k) ∧ ∀ z, zs_ z → SD_ t c m vr (fun j => ∃ q, a ≤ q ∧ q < e ∧ vc (203 + 75 * t) q = j) z (sv_ u 808 809 z) (sv_ u' 808 809 z) := by
  have hm := hP.1.1.2.2
  obtain ⟨⟨a0, ae, em⟩, g1, g2, g3⟩ := hG
  obtain ⟨u', e1, -, h1, h2⟩ := lp_s (σ := V_) (F := fun n q u => fX6_goCycles_70 k4 n 807 (200 + 75 * t) a c e q u) (K := fun u => fX6_goCycles_70 k4 1 807 (200 + 75 * t) a c e e u) (e := e) (I := fun x u' => a ≤ x ∧ (∀ b k, b ≠ 808 → b ≠ 809 → u' b k = u b k) ∧ ∀ z, zs_ z → SD_ t c m vr (fun j => ∃ q, a ≤ q ∧ q < x ∧ vc (203 + 75 * t) q = j) z (sv_ u 808 809 z) (sv_ u' 808 809 z)) (fun n x v h hx => by
    obtain ⟨x0, F, hS⟩ := h
    obtain ⟨⟨o1, o2⟩, -⟩ := hP.2.2.2.2.2.2.2.1.1 x (by omega) (by omega)
    have hq := hQ x x0 hx
    unfold CQ_ at hq
    generalize ej : vc (203 + 75 * t) x = j at o1 o2 hq
    have E : ∀ b k, b < 800 → v b k = vc b k := fun b k hb => (F b k (by omega) (by omega)).trans (G b k (by omega) (by omega) (by omega))
    have e5 : v (200 + 75 * t + 3) x = j := by rw [E _ _ (by omega), show 200 + 75 * t + 3 = 203 + 75 * t by omega, ej]
    have hE := ((PT_g (wr := vr) ht hP E (fun _ _ _ _ => rfl)).2.1 j o1 o2).1
    have nx : ∀ i, (∃ q, a ≤ q ∧ q < x + 1 ∧ vc (203 + 75 * t) q = i) ↔ ((∃ q, a ≤ q ∧ q < x ∧ vc (203 + 75 * t) q = i) ∨ i = j) := fun i => ⟨fun ⟨q, q0, q1, q2⟩ => by
      rcases (by omega : q < x ∨ q = x) with y | y
      · exact Or.inl ⟨q, q0, y, q2⟩
      · rw [y, ej] at q2; exact Or.inr q2.symm, fun h => by
      rcases h with ⟨q, q0, q1, q2⟩ | h
      · exact ⟨q, q0, by omega, q2⟩
      · exact ⟨x, x0, by omega, by rw [ej]; exact h.symm⟩⟩
    have e12 : v 812 x = u 812 x := F _ _ (by decide) (by decide)
    have e13 : v 813 x = u 813 x := F _ _ (by decide) (by decide)
    rw [fX6_goCycles_70, if_neg (show ¬ e ≤ x by omega), ck_t (by omega), ck_t (by omega), ck_t (by omega), ck_t (by omega), e5, show 200 + 75 * t + 2 + (5 + 2 * j) + 1 = 207 + 75 * t + 2 * j + 1 by omega]
    simp only [Int.reduceAdd]
    rw [e12, e13, hq.2.2]
    by_cases l : iln_ vr (34 * t + j)
    · have r12 : vr 854 (34 * t + j) < 12 := by
        have hL := (IE_line hE l).1.2.1
        rcases hL with h | h | h <;> omega
      rw [hq.1 l, set_c hE l, bd_s, lt_d, wr_id (by omega)]
      refine ⟨_, rfl, by omega, fun b k h1 h2 => (se_o ⟨h1, h2⟩).trans (F b k h1 h2), fun z hz => SD_step (hS z hz) nx l ?_⟩
      rw [se_sv (by decide) hz r12]
      rfl
    · have k2 : vr 849 (34 * t + j) = 2 ∨ vr 849 (34 * t + j) = 3 := by
        obtain ⟨-, -, -, -, -, -, -, -, o⟩ := hE
        have l' : ¬ (vr 849 (34 * t + j) = 0 ∨ vr 849 (34 * t + j) = 1) := l
        rcases o with ⟨o, -⟩ | ⟨o, -⟩ | ⟨o, -⟩ | ⟨o, -⟩ <;> omega
      rw [set_e hE k2, bd_s, lt_d, wr_id (by omega)]
      exact ⟨v, rfl, by omega, F, fun z hz => SD_skip (hS z hz) nx l⟩) (fun n v h => by
    rw [fX6_goCycles_70, fX6_goCycles_70, if_pos (Int.le_refl _), if_pos (Int.le_refl _)]) (e - a).toNat fu_ a u ⟨Int.le_refl _, fun _ _ _ _ => rfl, fun z _ => Or.inr ⟨fun j ⟨q, q0, q1, _⟩ => absurd q0 (by omega), rfl⟩⟩ (by omega) (by unfold fu_; omega)
  exact ⟨u', e1, h1, h2⟩
/-- behind the setting both hold the same registers and cells -/
theorem setRC {g vc vr u u' w w' : V_} {L : Int → Int} {t m c a e : Int} (hP : PT_ g L t m vc vr) (hG : GP_ t m c a e vc vr) (hR : RC_ u 807 w) (hd : ∀ j, iln_ vr (34 * t + j) → 0 ≤ j → j < m → iR_ (fd_ vr (34 * t + j))) (h1 : ∀ z, zs_ z → SD_ t c m vr (fun j => ∃ q, a ≤ q ∧ q < e ∧ vc (203 + 75 * t) q = j) z (sv_ u 808 809 z) (sv_ u' 808 809 z)) (h2 : ∀ z, zs_ z → SD_ t c m vr (fun j => 0 ≤ j ∧ j < m ∧ vr 858 (34 * t + j) = c) z (sv_ w 839 840 z) (sv_ w' 839 840 z)) : RC_ u' 807 w' := by
  have hG' := hG
  obtain ⟨⟨a0, ae, em⟩, g1, g2, g3⟩ := hG'
  have eqv : ∀ j, (0 ≤ j ∧ j < m ∧ vr 858 (34 * t + j) = c) ↔ (∃ q, a ≤ q ∧ q < e ∧ vc (203 + 75 * t) q = j) := fun j => ⟨fun ⟨x1, x2, x3⟩ => GP_mem hP hG x1 x2 x3, fun ⟨q, q0, q1, q2⟩ => by
    have o := (hP.2.2.2.2.2.2.2.1.1 q (by omega) (by omega)).1
    rw [q2] at o
    exact ⟨o.1, o.2, by rw [← q2]; exact g2 q q0 q1⟩⟩
  have key : ∀ z, zs_ z → sv_ u 808 809 z = sv_ w 839 840 z → iR_ (sv_ w 839 840 z) → sv_ u' 808 809 z = sv_ w' 839 840 z ∧ iR_ (sv_ w' 839 840 z) := fun z hz e0 r0 => by
    have x1 := h1 z hz
    rw [e0] at x1
    have eq := SD_u hP (fun j h => h) eqv hz (h2 z hz) x1
    refine ⟨eq.symm, ?_⟩
    rcases h2 z hz with ⟨j, j1, j2, j3, j4⟩ | ⟨-, n⟩
    · rw [j4]; exact hd j j2 j1.1 j1.2.1
    · rw [n]; exact r0
  refine ⟨fun k k0 k1 => ?_, fun k k0 k1 => ?_⟩
  · have := key k (Or.inl ⟨k0, k1⟩) (by unfold sv_; rw [if_pos (by omega), if_pos (by omega)]; exact (hR.1 k k0 k1).1) (by unfold sv_; rw [if_pos (by omega)]; exact (hR.1 k k0 k1).2)
    unfold sv_ at this
    rw [if_pos (by omega), if_pos (by omega)] at this
    exact this
  · have := key (100 + k) (Or.inr ⟨by omega, by omega⟩) (by unfold sv_; rw [if_neg (by omega), if_neg (by omega), show 100 + k - 100 = k by omega]; exact (hR.2 k k0 k1).1) (by unfold sv_; rw [if_neg (by omega), show 100 + k - 100 = k by omega]; exact (hR.2 k k0 k1).2)
    unfold sv_ at this
    rw [if_neg (by omega), if_neg (by omega), show 100 + k - 100 = k by omega] at this
    exact this
