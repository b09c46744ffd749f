/-! layer 2: a cycle of the class, whole -/
theorem place_Q {vc vr : V_} (h : vc 1 2 = vr 814 17) : ∃ r, fX11_place 1 vc = some (r, vc) ∧ fX12_place 814 vr = some (r, vr) := by
  unfold fX11_place fX12_place
  rw [h]
  exact ⟨_, rfl, rfl⟩
theorem ccyc_T {g vc vr : V_} {L : Int → Int} {t m c a e : Int} (ht : 0 ≤ t ∧ t < 8) (hP : PT_ g L t m vc vr) (hR : RC_ vc 807 vr) (hG : GP_ t m c a e vc vr) (hc : 0 ≤ c ∧ c < 300) (h4 : vc 807 4 = 0) (h11 : 0 ≤ vc 807 11 ∧ vc 807 11 < 9223372036854775808) (k4 : Int → Int → Int → Int → V_ → Option (Int × V_)) : (∃ u, fX6_goCycles_49 k4 807 (200 + 75 * t) a c e vc = some (-1, u) ∧ Gu_ vc u ∧ u 807 4 = 1 ∧ u 807 9 = -1 ∧ ∃ q, a ≤ q ∧ q < e ∧ UF_ t c vr (vc (203 + 75 * t) q)) ∨ ∃ u u' u2, (Gu_ vc u ∧ (∀ q, a ≤ q → q < e → CQ_ t q vc vr u) ∧ u 807 4 = 0 ∧ u 807 9 = vc 807 9 ∧ (∀ q, a ≤ q → q < e → ¬ UF_ t c vr (vc (203 + 75 * t) q)) ∧ (0 ≤ u 807 11 ∧ u 807 11 < 9223372036854775808) ∧ ∀ k, 0 ≤ k → (bt_ (u 807 11) k = true ↔ (bt_ (vc 807 11) k = true ∨ ∃ q, a ≤ q ∧ q < e ∧ HG_ t vr (vc (203 + 75 * t) q) k))) ∧ ((∀ b k, b ≠ 808 → b ≠ 809 → u' b k = u b k) ∧ ∀ z, zs_ z → SD_ t c m vr (fun j => ∃ q, a ≤ q ∧ q < e ∧ vc (203 + 75 * t) q = j) z (sv_ u 808 809 z) (sv_ u' 808 809 z)) ∧ ((DI_ t a e vc vr u' u2 ∧ ((u2 807 4 = 1 ∧ fX6_goCycles_49 k4 807 (200 + 75 * t) a c e vc = some (-1, u2)) ∨ (u2 807 4 ≠ 1 ∧ fX6_goCycles_49 k4 807 (200 + 75 * t) a c e vc = k4 807 (200 + 75 * t) e (c + 1) u2))) ∨ ∃ q, a ≤ q ∧ q < e ∧ LV_q t vc vr u' q ∧ DI_ t a q vc vr u' u2 ∧ fX6_goCycles_49 k4 807 (200 + 75 * t) a c e vc = some (vc (203 + 75 * t) q, u2)) := by
  have hm := hP.1.1.2.2
  obtain ⟨u, r1, r2, r3, r4, r5, r6⟩ := rall_T ht hP hR hG h4 h11
  rcases r4 with ⟨f1, f2, f3⟩ | ⟨f1, f2, f3⟩
  · obtain ⟨u', s1, s2, s3⟩ := cset_T ht hP hG r2 r3 k4
    have e11 : u' 807 11 = u 807 11 := s2 _ _ (by decide) (by decide)
    have hu : ∀ b k, b < 800 → u' b k = vc b k := fun b k hb => (s2 b k (by omega) (by omega)).trans (r2 b k (by omega) (by omega) (by omega))
    have H : fX6_goCycles_49 k4 807 (200 + 75 * t) a c e vc = fX6_goCycles_70 k4 1 807 (200 + 75 * t) a c e e u' := by
      unfold fX6_goCycles_49
      rw [r1, bd_s]
      try dsimp only
      rw [if_neg (show ¬ u 807 4 = 1 by omega), s1]
    refine Or.inr ⟨u, u', ?_⟩
    rcases decide_T ht hP hG hu (by rw [e11]; exact r5) with ⟨u2, d1, d2⟩ | ⟨u2, q, d1, d2, d3, d4, d5⟩
    · refine ⟨u2, ⟨r2, r3, f1, f2, f3, r5, r6⟩, ⟨s2, s3⟩, Or.inl ⟨d2, ?_⟩⟩
      rw [H, fX6_goCycles_70, if_pos (Int.le_refl _), d1, bd_s]
      try dsimp only
      rw [if_pos (show (-1 : Int) = -1 from rfl)]
      by_cases w : u2 807 4 = 1
      · rw [if_pos w]; exact Or.inl ⟨w, rfl⟩
      · rw [if_neg w, lt_d, wr_id (by omega)]; exact Or.inr ⟨w, rfl⟩
    · have o := (hP.2.2.2.2.2.2.2.1.1 q (by have := hG.1.1; omega) (by have := hG.1.2.2; omega)).1
      refine ⟨u2, ⟨r2, r3, f1, f2, f3, r5, r6⟩, ⟨s2, s3⟩, Or.inr ⟨q, d2, d3, d4, d5, ?_⟩⟩
      rw [H, fX6_goCycles_70, if_pos (Int.le_refl _), d1, bd_s]
      try dsimp only
      rw [if_neg (show ¬ vc (203 + 75 * t) q = -1 by omega)]
  · refine Or.inl ⟨u, ?_, r2, f1, f2, f3⟩
    unfold fX6_goCycles_49
    rw [r1, bd_s]
    try dsimp only
    rw [if_pos f1]
