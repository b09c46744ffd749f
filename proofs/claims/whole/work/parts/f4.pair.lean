/-! layer 2: a cycle, in both -/
/-- the guesses held back, in both -/
def HT_ (t m : Int) (vr0 u w : V_) : Prop := (0 ≤ u 807 11 ∧ u 807 11 < 9223372036854775808) ∧ ∀ k, 0 ≤ k → (bt_ (u 807 11) k = true ↔ ∃ j, 0 ≤ j ∧ j < m ∧ w 867 j ≠ 0 ∧ LS_ vr0 t j k)
/-- what one cycle, all set, leaves -/
def CY_ (t m c a e : Int) (vc vr u w : V_) : Prop := RC_ u 807 w ∧ HT_ t m vr u w ∧ (∀ j, 0 ≤ j → j < m → c < vr 858 (34 * t + j) → w 867 j = 0) ∧ (∀ b k, b ≠ 808 → b ≠ 809 → b ≠ 812 → b ≠ 813 → ¬ (b = 807 ∧ k = 11) → u b k = vc b k) ∧ (∀ b k, b ≠ 839 → b ≠ 840 → ¬ (864 ≤ b ∧ b ≤ 868) → ¬ (b = 814 ∧ 40 ≤ k ∧ k ≤ 42) → w b k = vr b k) ∧ ∀ q, a ≤ q → q < e → ¬ iln_ vr (34 * t + vc (203 + 75 * t) q) → u 812 q = ew_ (vr 852 (34 * t + vc (203 + 75 * t) q)) (rv_ (vr 839) (vr 855 (34 * t + vc (203 + 75 * t) q))) (rv_ (vr 839) (vr 856 (34 * t + vc (203 + 75 * t) q))) ∧ w 868 (vc (203 + 75 * t) q) = fe_ vr (34 * t + vc (203 + 75 * t) q)
theorem pair_T {g vc vr : V_} {L : Int → Int} {t m c a e : Int} (ht : 0 ≤ t ∧ t < 8) (hP : PT_ g L t m vc vr) (hR : RC_ vc 807 vr) (hG : GP_ t m c a e vc vr) (hc : 0 ≤ c ∧ c < 300) (h4 : vc 807 4 = 0) (hH : HT_ t m vr vc vr) (h0 : ∀ j, 0 ≤ j → j < m → c ≤ vr 858 (34 * t + j) → vr 867 j = 0) (k4 : Int → Int → Int → Int → V_ → Option (Int × V_)) : (∃ u w, fX6_goCycles_49 k4 807 (200 + 75 * t) a c e vc = some (-1, u) ∧ fX12_cycleDone 814 t c vr = some (0, w) ∧ Gu_ vc u ∧ u 807 4 = 1 ∧ u 807 9 = -1 ∧ Gv_ vr w) ∨ ∃ u w u2, fX12_cycleDone 814 t c vr = some (1, w) ∧ CY_ t m c a e vc vr u w ∧ ((DI_ t a e vc vr u u2 ∧ ((u2 807 4 = 1 ∧ fX6_goCycles_49 k4 807 (200 + 75 * t) a c e vc = some (-1, u2)) ∨ (u2 807 4 ≠ 1 ∧ fX6_goCycles_49 k4 807 (200 + 75 * t) a c e vc = k4 807 (200 + 75 * t) e (c + 1) u2))) ∨ ∃ q, a ≤ q ∧ q < e ∧ LV_q t vc vr u q ∧ DI_ t a q vc vr u u2 ∧ fX6_goCycles_49 k4 807 (200 + 75 * t) a c e vc = some (vc (203 + 75 * t) q, u2)) := by
  have hm := hP.1.1.2.2
  have hb := hG.1
  have ord : ∀ q, a ≤ q → q < e → 0 ≤ vc (203 + 75 * t) q ∧ vc (203 + 75 * t) q < m ∧ vr 858 (34 * t + vc (203 + 75 * t) q) = c := fun q q0 q1 => by
    have o := (hP.2.2.2.2.2.2.2.1.1 q (by omega) (by omega)).1
    exact ⟨o.1, o.2, hG.2.2.1 q q0 q1⟩
  rcases ccyc_T ht hP hR hG hc h4 hH.1 k4 with ⟨u, c1, c2, c3, c4, q, q0, q1, q2⟩ | ⟨u, u', u2, ⟨c1, c2, c3, c4, c5, c6, c7⟩, ⟨c8, c9⟩, d⟩
  · rcases rcyc_T (c := c) ht hP with ⟨w, r1, r2, r3, r4⟩ | ⟨w, j, r1, r2, -⟩
    · obtain ⟨o1, o2, o3⟩ := ord q q0 q1
      exact absurd q2 (r3 _ o1 o2 o3).2
    · exact Or.inl ⟨u, w, c1, r1, c2, c3, c4, r2⟩
  · rcases rcyc_T (c := c) ht hP with ⟨w, r1, r2, r3, r4⟩ | ⟨w, j, r1, r2, j0, j1, j2⟩
    · obtain ⟨w', s1, s2, s3⟩ := rset_T (c := c) ht hP r2 (fun j j0 j1 jc => (r3 j j0 j1 jc).1)
      have RCu : RC_ u 807 w := RC_fr hR (fun k => c1 _ _ (by decide) (by decide) (by omega)) (fun k => c1 _ _ (by decide) (by decide) (by omega)) (fun k => r2 _ _ (by decide) (by omega)) (fun k => r2 _ _ (by decide) (by omega))
      have hd : ∀ j, iln_ vr (34 * t + j) → 0 ≤ j → j < m → iR_ (fd_ vr (34 * t + j)) := fun j l j0 j1 => by
        have hL := (IE_line (hP.2.1 j j0 j1).1 l).1
        exact (dv_T (s := vr 852 (34 * t + j)) (o := vr 853 (34 * t + j)) (u := rv_ (vr 839) (vr 855 (34 * t + j))) hR (rv_T hR hL.2.2.2).2).2
      have e67 : ∀ j, w' 867 j = w 867 j := fun j => s2 _ _ (by decide) (by decide) (by omega)
      have e11 : u' 807 11 = u 807 11 := c8 _ _ (by decide) (by decide)
      refine Or.inr ⟨u', w', u2, r1.trans s1, ⟨setRC hP hG RCu hd c9 s3, ⟨by rw [e11]; exact c6, fun k k0 => ?_⟩, fun j j0 j1 jc => ?_, fun b k h1 h2 h3 h5 h6 => ?_, fun b k h1 h2 h3 h5 => ?_, fun q q0 q1 l => ⟨?_, ?_⟩⟩, d⟩
      · rw [e11, c7 k k0, hH.2 k k0]
        constructor
        · rintro (⟨j, j0, j1, j2, j3⟩ | ⟨q, q0, q1, l, f, gg, ls⟩)
          · refine ⟨j, j0, j1, ?_, j3⟩
            rw [e67, r4 j fun _ _ z => j2 (h0 j j0 j1 (by omega))]
            exact j2
          · obtain ⟨o1, o2, o3⟩ := ord q q0 q1
            refine ⟨_, o1, o2, ?_, ls⟩
            rw [e67, ((r3 _ o1 o2 o3).1.1 l).2.2.2, f]
            decide
        · rintro ⟨j, j0, j1, j2, j3⟩
          rw [e67] at j2
          by_cases z : vr 858 (34 * t + j) = c
          · obtain ⟨q, q0, q1, q2⟩ := GP_mem hP hG j0 j1 z
            obtain ⟨⟨J1, J2⟩, J3⟩ := r3 j j0 j1 z
            by_cases l : iln_ vr (34 * t + j)
            · have f := (J1 l).2.2.2
              have f1 : fw_ vr (34 * t + j) = 1 := by
                rcases wf_01 (vr 852 (34 * t + j)) (vr 853 (34 * t + j)) (rv_ (vr 839) (vr 855 (34 * t + j))) (rv_ (vr 839) (vr 856 (34 * t + j))) with y | y
                · exact absurd (f.trans y) j2
                · exact y
              have gg : gu_ vr t j := Classical.byContradiction fun n => J3 ⟨z, l, f1, n⟩
              exact Or.inr ⟨q, q0, q1, by rw [q2]; exact ⟨l, f1, gg, j3⟩⟩
            · exact absurd (J2 l).2 j2
          · rw [r4 j fun _ _ => z] at j2
            exact Or.inl ⟨j, j0, j1, j2, j3⟩
      · rw [e67, r4 j fun _ _ z => by omega]
        exact h0 j j0 j1 (by omega)
      · rw [c8 b k h1 h2]
        by_cases z : b = 807 ∧ (k = 4 ∨ k = 9)
        · rcases z with ⟨rfl, rfl | rfl⟩
          · omega
          · exact c4
        · exact c1 b k h3 h5 (by omega)
      · rw [s2 b k h1 h2 (by omega)]
        exact r2 b k h3 h5
      · rw [c8 _ _ (by decide) (by decide)]
        exact (c2 q q0 q1).2.1 l
      · obtain ⟨o1, o2, o3⟩ := ord q q0 q1
        rw [s2 _ _ (by decide) (by decide) (by omega)]
        exact ((r3 _ o1 o2 o3).1.2 l).1
    · obtain ⟨q, q0, q1, q2⟩ := GP_mem hP hG j0 j1 j2.1
      exact absurd (by rw [q2]; exact j2) (c5 q q0 q1)
