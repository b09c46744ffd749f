/-! layer 2: all traces planned, in both -/
theorem nL_p {g u v : V_} {L : Int → Int} {t i j : Int} (h : ∀ a k, 849 ≤ a → a ≤ 859 → 34 * t ≤ k → k < 34 * t + 34 → u a k = v a k) (i0 : 0 ≤ i) (ij : i < j) (j1 : j < 34) : nL_ g L u t i j = nL_ g L v t i j := by
  have E1 : ∀ a, 849 ≤ a → a ≤ 859 → u a (34 * t + i) = v a (34 * t + i) := fun a a0 a1 => h a _ a0 a1 (by omega) (by omega)
  have E2 : ∀ a, 849 ≤ a → a ≤ 859 → u a (34 * t + j) = v a (34 * t + j) := fun a a0 a1 => h a _ a0 a1 (by omega) (by omega)
  have B : (∀ k, i < k → k < j → u 854 (34 * t + k) ≠ u 854 (34 * t + i)) = (∀ k, i < k → k < j → v 854 (34 * t + k) ≠ v 854 (34 * t + i)) := by
    refine propext ⟨fun w k k0 k1 => ?_, fun w k k0 k1 => ?_⟩
    · rw [← h 854 _ (by decide) (by decide) (show 34 * t ≤ 34 * t + k by omega) (by omega), ← E1 854 (by decide) (by decide)]
      exact w k k0 k1
    · rw [h 854 _ (by decide) (by decide) (show 34 * t ≤ 34 * t + k by omega) (by omega), E1 854 (by decide) (by decide)]
      exact w k k0 k1
  unfold nL_ kep_ lat_ rd_ sto_ loa_
  rw [B, E1 849 (by decide) (by decide), E1 850 (by decide) (by decide), E1 851 (by decide) (by decide), E1 852 (by decide) (by decide), E1 854 (by decide) (by decide), E1 855 (by decide) (by decide), E1 856 (by decide) (by decide), E1 857 (by decide) (by decide), E2 849 (by decide) (by decide), E2 851 (by decide) (by decide), E2 852 (by decide) (by decide), E2 854 (by decide) (by decide), E2 855 (by decide) (by decide), E2 856 (by decide) (by decide)]
theorem gu_p {u v : V_} {t j : Int} (h : ∀ a k, 849 ≤ a → a ≤ 859 → 34 * t ≤ k → k < 34 * t + 34 → u a k = v a k) (j0 : 0 ≤ j) (j1 : j < 34) : gu_ v t j → gu_ u t j := fun ⟨a, i, i0, i1, i2, i3⟩ => by
  have E : ∀ a i, 849 ≤ a → a ≤ 859 → 0 ≤ i → i < 34 → u a (34 * t + i) = v a (34 * t + i) := fun a i a0 a1 i0 i1 => h a _ a0 a1 (by omega) (by omega)
  refine ⟨?_, i, i0, i1, ?_, ?_⟩
  · rw [E 849 _ (by decide) (by decide) j0 j1]; exact a
  · rw [E 849 _ (by decide) (by decide) i0 (by omega)]; exact i2
  · rw [E 858 _ (by decide) (by decide) i0 (by omega), E 858 _ (by decide) (by decide) j0 j1]; exact i3
theorem cop_p {u v : V_} {t j : Int} (h : ∀ a k, 849 ≤ a → a ≤ 859 → 34 * t ≤ k → k < 34 * t + 34 → u a k = v a k) (j0 : 0 ≤ j) (j1 : j < 34) : cop_ u t j = cop_ v t j := by
  have E : ∀ a i, 849 ≤ a → a ≤ 859 → 0 ≤ i → i < 34 → u a (34 * t + i) = v a (34 * t + i) := fun a i a0 a1 i0 i1 => h a _ a0 a1 (by omega) (by omega)
  unfold cop_
  rw [E 849 _ (by decide) (by decide) j0 j1, ct_congr (f := lt1_ u t j) (h := lt1_ v t j) j.toNat fun i i0 i1 => by
    unfold lt1_
    rw [E 858 _ (by decide) (by decide) j0 j1, E 858 _ (by decide) (by decide) i0 (by omega)]]
theorem fv_p {U : Int → Int} {c c' : Int → Int} (h : ∀ k, 0 ≤ k → k < 4 → c k = c' k) : ∀ (k : Nat), k ≤ 4 → ∀ p : Int, fv_ U c p k = fv_ U c' p k := by
  intro k
  induction k with
  | zero => exact fun _ p => rfl
  | succ k ih =>
    intro hk p
    simp only [fv_]
    rw [ih (by omega) p, h k (by omega) (by omega)]
theorem PT_fr {g vc vr wc wr : V_} {L : Int → Int} {t m : Int} (h : PT_ g L t m vc vr) (h1 : ∀ a k, 200 + 75 * t ≤ a → a < 275 + 75 * t → wc a k = vc a k) (h2 : ∀ k, wr 846 k = vr 846 k ∧ wr 847 k = vr 847 k) (h3 : wr 848 t = vr 848 t ∧ wr 860 t = vr 860 t) (h4 : ∀ a k, 849 ≤ a → a ≤ 859 → 34 * t ≤ k → k < 34 * t + 34 → wr a k = vr a k) : PT_ g L t m wc wr := by
  obtain ⟨⟨⟨a1, a2, a3, a4⟩, a5⟩, a6, ⟨a7, a8⟩, a9, ⟨b1, b2⟩, b3, ⟨b4, b5, b6⟩, ⟨b7, b8⟩, ⟨b9, c1, c2⟩, c3, c4, ⟨d1, d2, d3, d4, d5, d6⟩, ⟨e1, e2, e3, e4, e5, e6, e7⟩⟩ := h
  have F : ∀ x k, 0 ≤ x → x < 75 → wc (200 + 75 * t + x) k = vc (200 + 75 * t + x) k := fun x k x0 x1 => h1 _ k (by omega) (by omega)
  have F0 : ∀ k, wc (200 + 75 * t) k = vc (200 + 75 * t) k := fun k => h1 _ k (by omega) (by omega)
  have F3 : ∀ k, wc (203 + 75 * t) k = vc (203 + 75 * t) k := fun k => h1 _ k (by omega) (by omega)
  have F4 : ∀ k, wc (204 + 75 * t) k = vc (204 + 75 * t) k := fun k => h1 _ k (by omega) (by omega)
  have F7 : ∀ j k, 0 ≤ j → j < m → wc (207 + 75 * t + 2 * j) k = vc (207 + 75 * t + 2 * j) k := fun j k j0 j1 => h1 _ k (by omega) (by omega)
  have G : ∀ a j, 849 ≤ a → a ≤ 859 → 0 ≤ j → j < m → wr a (34 * t + j) = vr a (34 * t + j) := fun a j q q2 j0 j1 => h4 _ _ q q2 (by omega) (by omega)
  refine ⟨⟨⟨?_, ?_, a3, a4⟩, ?_⟩, fun j j0 j1 => ⟨?_, ?_, ?_, ?_⟩, ⟨?_, ?_⟩, fun i j i0 i1 j1 => ?_, ⟨fun j j0 j1 => ?_, ?_⟩, ?_, ⟨fun j j0 j1 => ?_, fun i j i0 i1 j1 hn => ?_, ?_⟩, ⟨fun q q0 q1 => ?_, fun j j0 j1 => ?_⟩, ⟨fun j j0 j1 => ⟨?_, ?_⟩, ?_, ?_⟩, ?_, fun j j0 j1 => ?_, ⟨d1, d2, d3, d4, fun j j0 j1 => ?_, fun i j i0 i1 j1 => ?_⟩, ⟨e1, e2, ?_, e4, fun i j i0 i1 j1 => ?_, fun j j0 j1 => ?_, e7⟩⟩
  · rw [F0]; exact a1
  · rw [h3.1]; exact a2
  · rw [F0, h3.2]; exact a5
  · exact IE_fr (a6 j j0 j1).1 ⟨F7 j _ j0 j1, F7 j _ j0 j1, F7 j _ j0 j1, F7 j _ j0 j1⟩ (fun k => h1 _ k (by omega) (by omega)) fun a q q2 => G a j q (by omega) j0 j1
  · rw [F7 j _ j0 j1]
    exact LS_fr (a6 j j0 j1).2.1 fun i i0 i1 => G 849 i (by decide) (by decide) i0 (by omega)
  · rw [G 849 j (by decide) (by decide) j0 j1]; exact (a6 j j0 j1).2.2.1
  · rw [F7 j _ j0 j1, (a6 j j0 j1).2.2.2]
    unfold lat_
    rw [G 851 j (by decide) (by decide) j0 j1]
  · rw [F0, a7]
    exact ct_congr _ fun i i0 i1 => by unfold sp_; rw [G 849 i (by decide) (by decide) i0 (by omega)]
  · rw [F0, a8]
    exact ct_congr _ fun i i0 i1 => by unfold pl_ lat_; rw [G 849 i (by decide) (by decide) i0 (by omega), G 851 i (by decide) (by decide) i0 (by omega)]
  · rw [F4, nL_p h4 i0 i1 (by omega)]
    exact a9 i j i0 i1 j1
  · rw [F7 j _ j0 j1, F0, G 859 j (by decide) (by decide) j0 j1]
    exact b1 j j0 j1
  · obtain ⟨j, j0, j1, j2⟩ := b2
    exact ⟨j, j0, j1, by rw [F0, G 859 j (by decide) (by decide) j0 j1]; exact j2⟩
  · rw [F0, F0, b3]
    exact fv_p (fun k k0 k1 => ct_congr _ fun i i0 i1 => by unfold kc_; rw [G 851 i (by decide) (by decide) i0 (by omega)]) 4 (by decide) _
  · rw [F7 j _ j0 j1, G 858 j (by decide) (by decide) j0 j1]
    exact b4 j j0 j1
  · rw [F4] at hn ⊢
    rw [G 858 i (by decide) (by decide) i0 (by omega), G 858 j (by decide) (by decide) (by omega) j1]
    exact b5 i j i0 i1 j1 hn
  · rw [F0, G 858 (m - 1) (by decide) (by decide) (by omega) (by omega)]
    exact b6
  · have o := b7 q q0 q1
    rw [F3, G 858 _ (by decide) (by decide) o.1.1 o.1.2]
    refine ⟨o.1, fun q' z0 z1 => ?_⟩
    have o' := b7 q' z0 (by omega)
    rw [F3, G 858 _ (by decide) (by decide) o'.1.1 o'.1.2]
    exact o.2 q' z0 z1
  · obtain ⟨q, q0, q1, q2⟩ := b8 j j0 j1
    exact ⟨q, q0, q1, by rw [F3]; exact q2⟩
  · rw [F7 j _ j0 j1]
    rcases (b9 j j0 j1).1 with ⟨x, y⟩ | ⟨x, y⟩
    · exact Or.inl ⟨x, gu_p h4 j0 (by omega) y⟩
    · exact Or.inr ⟨x, fun z => y (gu_p (fun a k q q2 q3 q4 => (h4 a k q q2 q3 q4).symm) j0 (by omega) z)⟩
  · rw [F7 j _ j0 j1, cop_p h4 j0 (by omega)]
    exact (b9 j j0 j1).2
  · rw [F0, c1]
    exact ct_congr _ fun i i0 i1 => (F7 i _ i0 (by omega)).symm
  · rw [F0, c2]
    exact ct_congr _ fun i i0 i1 => (cop_p h4 i0 (by omega)).symm
  · rw [(h2 _).1, (h2 _).2, G 850 (m - 1) (by decide) (by decide) (by omega) (by omega)]
    exact c3
  · obtain ⟨i, i0, i1, i2⟩ := c4 j j0 j1
    exact ⟨i, i0, by rw [(h2 _).2]; exact i1, by rw [(h2 _).1, G 850 j (by decide) (by decide) j0 j1]; exact i2⟩
  · rw [F7 j _ j0 j1]; exact d5 j j0 j1
  · rw [F4]; exact d6 i j i0 i1 j1
  · rw [F0]; exact e3
  · rw [F4]; exact e5 i j i0 i1 j1
  · rw [F7 j _ j0 j1, h1 (208 + 75 * t + 2 * j) _ (by omega) (by omega)]; exact e6 j j0 j1
theorem TP_fr {g vc vr wc wr : V_} (h : TP_ g vc vr) (h0 : wc 189 0 = vc 189 0) (h1 : ∀ a k, 190 ≤ a → a ≤ 192 → wc a k = vc a k) (h2 : ∀ s k, 0 ≤ s → s < 8 → wc (200 + 75 * s) 1 = vc (200 + 75 * s) 1 ∧ wc (201 + 75 * s) k = vc (201 + 75 * s) k) (h3 : ∀ a k, 844 ≤ a → a ≤ 847 → wr a k = vr a k) (h4 : wr 814 52 = vr 814 52) : TP_ g wc wr := by
  have e : ∀ a, 844 ≤ a → a ≤ 847 → wr a = vr a := fun a q q2 => funext fun k => h3 a k q q2
  obtain ⟨t1, t2, t3, t4, t5⟩ := h
  unfold TP_ TD_
  rw [h4, h0, e 844 (by decide) (by decide), e 845 (by decide) (by decide), e 846 (by decide) (by decide), e 847 (by decide) (by decide)]
  refine ⟨t1, t2, fun b b0 b1 => ?_, fun s s0 s1 => ?_, fun b b0 b1 b2 b3 => ?_⟩
  · rw [h1 191 _ (by decide) (by decide)]
    exact t3 b b0 b1
  · rw [(h2 s 0 s0 (by omega)).1]
    obtain ⟨x, y, z⟩ := t4 s s0 s1
    refine ⟨x, y, fun i i0 i1 => ?_⟩
    rw [(h2 s _ s0 (by omega)).2, h1 192 _ (by decide) (by decide)]
    exact z i i0 i1
  · rw [h1 192 _ (by decide) (by decide)]
    exact t5 b b0 b1 b2 b3
