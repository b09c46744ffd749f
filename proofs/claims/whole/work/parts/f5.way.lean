/-! layer 2: the split of a cycle, in both -/
theorem way_T {g vc vr u w : V_} {L : Int → Int} {t m c a e : Int} (ht : 0 ≤ t ∧ t < 8) (hP : PT_ g L t m vc vr) (hG : GP_ t m c a e vc vr) (hY : CY_ t m c a e vc vr u w) : ∃ r, fX12_splitIn 814 t c w = some (r, w) ∧ ((r = -1 ∧ ∀ q, a ≤ q → q < e → vr 849 (34 * t + vc (203 + 75 * t) q) ≠ 2) ∨ ∃ q, a ≤ q ∧ q < e ∧ vc (203 + 75 * t) q = r ∧ (0 ≤ r ∧ r < m) ∧ vr 849 (34 * t + r) = 2 ∧ w 868 r = u 812 q ∧ ∃ h, fX12_hasHeld 814 t r w = some (h, w) ∧ ((h = 1 ∧ bt_ (u 807 11) r = true) ∨ (h = 0 ∧ ¬ bt_ (u 807 11) r = true))) := by
  have hm := hP.1.1.2.2
  obtain ⟨y1, y2, y3, y4, y5, y6⟩ := hY
  have E : ∀ a k, 843 ≤ a → a ≤ 863 → w a k = vr a k := fun a k h1 h2 => y5 a k (by omega) (by omega) (by omega) (by omega)
  have e848 : w 848 t = m := (E _ _ (by decide) (by decide)).trans hP.1.1.2.1
  obtain ⟨r, o1, o2⟩ := splitIn_e (v := w) (t := t) (m := m) (c := c) ht hm e848
  refine ⟨r, o1, ?_⟩
  rcases o2 with ⟨r0, r1, r2, r3⟩ | ⟨r0, r1⟩
  · rw [E _ _ (by decide) (by decide)] at r2 r3
    obtain ⟨q, q0, q1, q2⟩ := GP_mem hP hG r0 r1 r3
    have nl : ¬ iln_ vr (34 * t + vc (203 + 75 * t) q) := by
      rw [q2]
      intro z
      have z' : vr 849 (34 * t + r) = 0 ∨ vr 849 (34 * t + r) = 1 := z
      omega
    obtain ⟨v1, v2⟩ := y6 q q0 q1 nl
    rw [q2] at v1 v2
    have s1 : vr 852 (34 * t + r) = 1 := by
      obtain ⟨-, -, -, -, -, -, -, -, o⟩ := (hP.2.1 r r0 r1).1
      rcases o with ⟨o, -⟩ | ⟨o, -⟩ | ⟨-, -, o, -⟩ | ⟨o, -⟩
      · omega
      · omega
      · exact o
      · omega
    obtain ⟨h, h1, h2⟩ := held_e (v := w) (t := t) (m := m) (k := r) ht hm e848 ⟨r0, r1⟩
    have ls : ∀ j, LS_ w t j r ↔ LS_ vr t j r := fun j => ⟨fun z => LS_fr z fun i _ _ => (E _ _ (by decide) (by decide)).symm, fun z => LS_fr z fun i _ _ => E _ _ (by decide) (by decide)⟩
    have hb := y2.2 r r0
    refine Or.inr ⟨q, q0, q1, q2, ⟨r0, r1⟩, r2, ?_, h, h1, ?_⟩
    · rw [v1, v2]
      unfold fe_
      rw [if_neg (show ¬ vr 852 (34 * t + r) = 2 by omega)]
    · rcases h2 with ⟨z, j, j0, j1, j2, j3⟩ | ⟨z, z2⟩
      · exact Or.inl ⟨z, hb.2 ⟨j, j0, j1, j2, (ls j).1 j3⟩⟩
      · refine Or.inr ⟨z, fun b => z2 ?_⟩
        obtain ⟨j, j0, j1, j2, j3⟩ := hb.1 b
        exact ⟨j, j0, j1, j2, (ls j).2 j3⟩
  · refine Or.inl ⟨r0, fun q q0 q1 z => ?_⟩
    have o := (hP.2.2.2.2.2.2.2.1.1 q (by have := hG.1.1; omega) (by have := hG.1.2.2; omega)).1
    refine r1 _ o.1 o.2 ⟨?_, ?_⟩
    · rw [E _ _ (by decide) (by decide)]; exact z
    · rw [E _ _ (by decide) (by decide)]; exact hG.2.2.1 q q0 q1
