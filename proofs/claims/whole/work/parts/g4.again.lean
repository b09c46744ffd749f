/-! layer 2: a trace laid again, with one unit more -/
/-- the same trace, as far as the list looks at it -/
def US_ (t m : Int) (c0 uc : V_) : Prop := uc (200 + 75 * t) 3 = m ∧ (∀ i j, 0 ≤ i → i < j → j < m → uc (204 + 75 * t) (34 * i + j) = c0 (204 + 75 * t) (34 * i + j)) ∧ ∀ j, 0 ≤ j → j < m → uc (207 + 75 * t + 2 * j) 8 = c0 (207 + 75 * t + 2 * j) 8 ∧ uc (208 + 75 * t + 2 * j) 0 = c0 (208 + 75 * t + 2 * j) 0
theorem nL_g {g g' v : V_} {L : Int → Int} {t i j : Int} (hG1 : ∀ a k, a ≠ 11 → g' a k = g a k) (hG2 : ∀ k, 43 ≤ k → g' 11 k = g 11 k) (hi : 0 ≤ v 851 (34 * t + i)) (hj : 0 ≤ v 851 (34 * t + j)) : nL_ g' L v t i j = nL_ g L v t i j := by
  have e1 : lat_ g' v (34 * t + i) = lat_ g v (34 * t + i) := hG2 _ (by omega)
  have e2 : lat_ g' v (34 * t + j) = lat_ g v (34 * t + j) := hG2 _ (by omega)
  have e3 : kep_ g' L v (34 * t + i) (34 * t + j) = kep_ g L v (34 * t + i) (34 * t + j) := by
    unfold kep_
    rw [hG1 10 _ (by decide)]
  unfold nL_
  rw [e1, e2, e3]
theorem again_T {g g' c0 vr uc ur : V_} {L : Int → Int} {t m : Int} (hw : WF_ g') (hg : RG_ g') (hG1 : ∀ a k, a ≠ 11 → g' a k = g a k) (hG2 : ∀ k, 43 ≤ k → g' 11 k = g 11 k) (ht : 0 ≤ t ∧ t < 8) (hP : PT_ g L t m c0 vr) (hL : ∀ b, 0 ≤ b → b < g 0 0 → vr 843 b = L b ∧ r6_ (L b)) (hD : D_ ur g') (hU : ∀ k, 0 ≤ k → k < 4 → uc 193 k = g' 11 (39 + k)) (h1 : US_ t m c0 uc) (h2 : ∀ a k, 843 ≤ a → a ≤ 857 → ur a k = vr a k) : ∃ r1 r2 wc, fX12_fillsNeeds 814 t ur = some (0, r1) ∧ fX12_laysTrace 814 t r1 = some (0, r2) ∧ fX2_lay 194 (200 + 75 * t) 193 uc = some (r2 858 (34 * t + (m - 1)) + 1, wc) ∧ (0 ≤ r2 858 (34 * t + (m - 1)) ∧ r2 858 (34 * t + (m - 1)) < 300) ∧ (∀ a k, ¬ (a = 194 ∧ k = 5) → ¬ (195 ≤ a ∧ a ≤ 199) → wc a k = uc a k) ∧ (∀ a k, a ≠ 858 → a ≠ 859 → a ≠ 862 → a ≠ 863 → r2 a k = ur a k) ∧ ∀ k, ¬ (34 * t ≤ k ∧ k < 34 * t + 34) → r2 858 k = ur 858 k := by
  have hm := hP.1.1.2.2
  have hIE := fun j j0 j1 => (hP.2.1 j j0 j1).1
  have hV := IE_V ⟨hm.1, hm.2⟩ hIE
  have g00 : g' 0 0 = g 0 0 := hG1 _ _ (by decide)
  have K : ∀ j, 0 ≤ j → j < m → kof_ (c0 (208 + 75 * t + 2 * j) 0) = vr 851 (34 * t + j) ∧ 0 ≤ vr 851 (34 * t + j) ∧ vr 851 (34 * t + j) < 4 := fun j j0 j1 => by
    obtain ⟨a, b⟩ := IE_kind (hIE j j0 j1)
    rw [kof_e, show 207 + 75 * t + 2 * j + 1 = 208 + 75 * t + 2 * j by omega] at a
    exact ⟨(Prod.mk.inj (Option.some.inj a)).1, b⟩
  have hV' : IV_ g' ur t m := by
    refine ⟨hV.1, fun j j0 j1 => ?_⟩
    rw [h2 851 _ (by decide) (by decide), h2 849 _ (by decide) (by decide), h2 850 _ (by decide) (by decide), h2 857 _ (by decide) (by decide), g00, hG1 10 _ (by decide)]
    exact hV.2 j j0 j1
  obtain ⟨c, c', q1, q2, q3, q4⟩ := hP.2.2.2.2.2.2.2.2.2.2.2.1
  have hM : ∀ i j, 0 ≤ i → i < j → j < m → MX_ (nL_ g' L ur t i j) (c (204 + 75 * t) (34 * i + j)) := fun i j i0 i1 j1 => by
    rw [nL_fr (u := ur) (v := vr) (fun a k y y2 => h2 a k (by omega) y2), nL_g hG1 hG2 (K i i0 (by omega)).2.1 (K j (by omega) j1).2.1, q4 i j i0 i1 j1]
    exact hP.2.2.2.1 i j i0 i1 j1
  obtain ⟨d', r1, e1, e2, -, f2, f3, f4, -⟩ := heights_T (g := g') (vc := c) (vr := ur) (L := L) hw hg hD ht (fun b b0 b1 => by
    rw [h2 843 _ (by decide) (by decide)]
    exact hL b b0 (by omega)) hV' ⟨q2, (h2 _ _ (by decide) (by decide)).trans hP.1.1.2.1⟩ (fun j j0 j1 => (q3 j j0 j1).1) hM
  have ed : d' = c' := (Prod.mk.inj (Option.some.inj (e1.symm.trans q1))).2
  rw [ed] at f3
  have hLG : LG_ t m uc r1 := by
    refine ⟨ht, ⟨hm.1, hm.2⟩, ⟨h1.1, (f2.1 _ _ (by decide) (by decide)).trans ((h2 _ _ (by decide) (by decide)).trans hP.1.1.2.1)⟩, fun i j i0 i1 j1 => ?_, fun j j0 j1 => ?_, fun k k0 k1 => ?_⟩
    · rw [f4 i j i0 i1 j1, h1.2.1 i j i0 i1 j1, q4 i j i0 i1 j1]
      refine ⟨rfl, ?_⟩
      rw [← q4 i j i0 i1 j1]
      exact nL_6 hg hV' ⟨i0, by omega⟩ ⟨by omega, j1⟩ (hM i j i0 i1 j1)
    · rw [(h1.2.2 j j0 j1).1, (h1.2.2 j j0 j1).2, ← (q3 j j0 j1).2, f2.1 851 _ (by decide) (by decide), h2 851 _ (by decide) (by decide)]
      exact ⟨(f3 j j0 j1).1, K j j0 j1⟩
    · rw [hU k k0 k1, f2.1 838 _ (by decide) (by decide), hD.2.2.2.2.2 _ (by omega) (by omega)]
      exact ⟨rfl, hg.2.2.2.1 _ (by omega) (by omega)⟩
  obtain ⟨wc, r2, s1, s2, s3, s7, s8, s9⟩ := lay_T hLG
  refine ⟨r1, r2, wc, e2, s2, s1, (s3.1 (m - 1) (by omega) (by omega)).2, s7, fun a k y1 y2 y3 y4 => (s8 a k y1 y4).trans (f2.1 a k y2 y3), fun k y => (s9 k y).trans (f2.1 _ _ (by decide) (by decide))⟩
/-- with the same units: the same length -/
theorem same_T {g c0 vr uc : V_} {L : Int → Int} {t m : Int} (hw : WF_ g) (hg : RG_ g) (ht : 0 ≤ t ∧ t < 8) (hP : PT_ g L t m c0 vr) (hL : ∀ b, 0 ≤ b → b < g 0 0 → vr 843 b = L b ∧ r6_ (L b)) (hD : D_ vr g) (hU : ∀ k, 0 ≤ k → k < 4 → uc 193 k = g 11 (39 + k)) (h1 : US_ t m c0 uc) : ∃ wc, fX2_lay 194 (200 + 75 * t) 193 uc = some (c0 (200 + 75 * t) 9, wc) ∧ ∀ a k, ¬ (a = 194 ∧ k = 5) → ¬ (195 ≤ a ∧ a ≤ 199) → wc a k = uc a k := by
  obtain ⟨c, c', q1, q2, q3, q4, q5⟩ := hP.2.2.2.2.2.2.2.2.2.2.2.2
  obtain ⟨r1, r2, wc, e1, e2, e3, -, e5, -⟩ := again_T (ur := vr) hw hg (fun _ _ _ => rfl) (fun _ _ => rfl) ht hP hL hD hU h1 (fun _ _ _ _ => rfl)
  obtain ⟨s1, s2, xc, d1, d2, d3, -⟩ := again_T (uc := c) (ur := vr) hw hg (fun _ _ _ => rfl) (fun _ _ => rfl) ht hP hL hD q5 ⟨q2, q3, q4⟩ (fun _ _ _ _ => rfl)
  have x1 : s1 = r1 := (Prod.mk.inj (Option.some.inj (d1.symm.trans e1))).2
  rw [x1] at d2
  have x2 : s2 = r2 := (Prod.mk.inj (Option.some.inj (d2.symm.trans e2))).2
  rw [x2] at d3
  have x3 := (Prod.mk.inj (Option.some.inj (d3.symm.trans q1))).1
  rw [x3] at e3
  exact ⟨wc, e3, e5⟩
