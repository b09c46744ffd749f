/-! layer 2: one trace planned, in both -/
/-- heights and cycles again, of another memory -/
def HE_ (t m : Int) (vc : V_) : Prop := ∃ c c', fX10_findHeights (200 + 75 * t) c = some (0, c') ∧ c (200 + 75 * t) 3 = m ∧ (∀ j, 0 ≤ j → j < m → c (207 + 75 * t + 2 * j) 8 = 0 ∧ c' (207 + 75 * t + 2 * j) 8 = vc (207 + 75 * t + 2 * j) 8) ∧ ∀ i j, 0 ≤ i → i < j → j < m → c (204 + 75 * t) (34 * i + j) = vc (204 + 75 * t) (34 * i + j)
def LE_ (g : V_) (t m : Int) (vc : V_) : Prop := ∃ c c', fX2_lay 194 (200 + 75 * t) 193 c = some (vc (200 + 75 * t) 9, c') ∧ c (200 + 75 * t) 3 = m ∧ (∀ i j, 0 ≤ i → i < j → j < m → c (204 + 75 * t) (34 * i + j) = vc (204 + 75 * t) (34 * i + j)) ∧ (∀ j, 0 ≤ j → j < m → c (207 + 75 * t + 2 * j) 8 = vc (207 + 75 * t + 2 * j) 8 ∧ c (208 + 75 * t + 2 * j) 0 = vc (208 + 75 * t + 2 * j) 0) ∧ ∀ k, 0 ≤ k → k < 4 → c 193 k = g 11 (39 + k)
/-- trace t of m items, planned -/
def PT_ (g : V_) (L : Int → Int) (t m : Int) (vc vr : V_) : Prop := ((vc (200 + 75 * t) 3 = m ∧ vr 848 t = m ∧ 1 ≤ m ∧ m ≤ 34) ∧ (vc (200 + 75 * t) 5 = vr 860 t ∧ 0 ≤ vr 860 t ∧ vr 860 t ≤ 6)) ∧ (∀ j, 0 ≤ j → j < m → IE_ g vc (207 + 75 * t + 2 * j) vr (34 * t + j) ∧ LS_ vr t j (vc (207 + 75 * t + 2 * j) 6) ∧ (vr 849 (34 * t + j) = 3 ↔ j = m - 1) ∧ vc (207 + 75 * t + 2 * j) 3 = lat_ g vr (34 * t + j)) ∧ (vc (200 + 75 * t) 4 = ct_ (sp_ vr t) m.toNat ∧ vc (200 + 75 * t) 6 = ct_ (pl_ g vr t) m.toNat) ∧ (∀ i j, 0 ≤ i → i < j → j < m → MX_ (nL_ g L vr t i j) (vc (204 + 75 * t) (34 * i + j))) ∧ ((∀ j, 0 ≤ j → j < m → vc (207 + 75 * t + 2 * j) 8 = vr 859 (34 * t + j) ∧ 0 ≤ vr 859 (34 * t + j) ∧ vr 859 (34 * t + j) ≤ 204 ∧ vr 859 (34 * t + j) + 1 ≤ vc (200 + 75 * t) 7) ∧ ∃ j, 0 ≤ j ∧ j < m ∧ vc (200 + 75 * t) 7 = vr 859 (34 * t + j) + 1) ∧ vc (200 + 75 * t) 8 = fv_ (fun k => g 11 (39 + k)) (fun k => ct_ (kc_ vr t k) m.toNat) (vc (200 + 75 * t) 7) 4 ∧ ((∀ j, 0 ≤ j → j < m → vc (207 + 75 * t + 2 * j) 7 = vr 858 (34 * t + j) ∧ 0 ≤ vr 858 (34 * t + j) ∧ vr 858 (34 * t + j) < 300) ∧ (∀ i j, 0 ≤ i → i < j → j < m → 0 ≤ vc (204 + 75 * t) (34 * i + j) → vr 858 (34 * t + i) + vc (204 + 75 * t) (34 * i + j) ≤ vr 858 (34 * t + j)) ∧ vc (200 + 75 * t) 9 = vr 858 (34 * t + (m - 1)) + 1) ∧ ((∀ q, 0 ≤ q → q < m → (0 ≤ vc (203 + 75 * t) q ∧ vc (203 + 75 * t) q < m) ∧ ∀ q', 0 ≤ q' → q' < q → vr 858 (34 * t + vc (203 + 75 * t) q') ≤ vr 858 (34 * t + vc (203 + 75 * t) q) ∧ vc (203 + 75 * t) q' ≠ vc (203 + 75 * t) q) ∧ ∀ j, 0 ≤ j → j < m → ∃ q, 0 ≤ q ∧ q < m ∧ vc (203 + 75 * t) q = j) ∧ ((∀ j, 0 ≤ j → j < m → ((vc (207 + 75 * t + 2 * j) 10 = 1 ∧ gu_ vr t j) ∨ (vc (207 + 75 * t + 2 * j) 10 = 0 ∧ ¬ gu_ vr t j)) ∧ vc (207 + 75 * t + 2 * j) 9 = cop_ vr t j) ∧ vc (200 + 75 * t) 10 = ct_ (fun j => vc (207 + 75 * t + 2 * j) 10) m.toNat ∧ vc (200 + 75 * t) 11 = ct_ (cop_ vr t) m.toNat) ∧ vr 850 (34 * t + (m - 1)) = vr 846 (4 * t + (vr 847 t - 1)) ∧ (∀ j, 0 ≤ j → j < m → ∃ i, 0 ≤ i ∧ i < vr 847 t ∧ vr 850 (34 * t + j) = vr 846 (4 * t + i)) ∧ HE_ t m vc ∧ LE_ g t m vc
def Fo1_ (t : Int) (u w : V_) : Prop := ∀ a k, a < 194 ∨ (200 ≤ a ∧ a < 200 + 75 * t) ∨ 275 + 75 * t ≤ a ∨ a = 201 + 75 * t ∨ (a = 200 + 75 * t ∧ k = 1) → w a k = u a k
def Fo2_ (t : Int) (u w : V_) : Prop := (∀ a k, ¬ (848 ≤ a ∧ a ≤ 863) → w a k = u a k) ∧ (∀ a k, 849 ≤ a → a ≤ 859 → ¬ (34 * t ≤ k ∧ k < 34 * t + 34) → w a k = u a k) ∧ ∀ k, k ≠ t → w 848 k = u 848 k ∧ w 860 k = u 860 k
theorem ct_fr {u v : V_} {t m : Int} (f : V_ → Int → Int → Int) (hf : ∀ j, 0 ≤ j → j < m → f u t j = f v t j) : ct_ (f u t) m.toNat = ct_ (f v t) m.toNat := ct_congr _ fun i i0 i1 => hf i i0 (by omega)
theorem one_T {g vc vr : V_} {L : Int → Int} {t p M : Int} (hw : WF_ g) (hg : RG_ g) (ht : 0 ≤ t ∧ t < 8) (hC : C_ vc p g) (hD : D_ vr g) (hL : LB_ g L p vc vr) (hT : TB_ g t M vc vr) (hU : ∀ k, 0 ≤ k → k < 4 → vc 193 k = g 11 (39 + k)) : ∃ c1 c2 c3 c4 c5 r1 r2 r3 m len, fX10_gather (200 + 75 * t) p (if g 11 38 = 1 then 1 else 0) vc = some (0, c1) ∧ fX10_findNeeds (200 + 75 * t) p 140 c1 = some (0, c2) ∧ fX10_findFloor (200 + 75 * t) 193 c2 = some (0, c3) ∧ fX2_lay 194 (200 + 75 * t) 193 c3 = some (len, c4) ∧ fX10_layAs (200 + 75 * t) 194 c4 = some (0, c5) ∧ fX12_fillsItems 814 t vr = some (0, r1) ∧ fX12_fillsNeeds 814 t r1 = some (0, r2) ∧ fX12_laysTrace 814 t r2 = some (0, r3) ∧ PT_ g L t m c5 r3 ∧ Fo1_ t vc c5 ∧ Fo2_ t vr r3 := by
  have hn := hw.1
  have hp : 12 ≤ p ∧ p ≤ 76 := by have := hC.1; omega
  obtain ⟨c1, r1, m, e1, e2, hG, F1, F2⟩ := gather_T hw ht hC hD hL hT
  obtain ⟨⟨g1, g2, g3, g4⟩, g5, g6, g7, g8, g9⟩ := hG
  have hm : 1 ≤ m ∧ m ≤ 34 := ⟨g3, g4⟩
  have bl := fills_B ht (by rw [hT.2.2.1]; exact hT.1.2) e2
  have hC1 := FgC hw ht hC F1
  have hD1 := FgD hD F2
  have hL1 := LB_fr ht.1 hC.1 hL F1 F2
  have hV : IV_ g r1 t m := IE_V hm fun j j0 j1 => (g6 j j0 j1).1
  -- needs
  obtain ⟨c2, n1, n2, n3, n4, n5⟩ := find_T (L := L) hw hg hC1 ht ⟨g1, g3, g4⟩ (fun j j0 j1 => (g6 j j0 j1).1) (fun b b0 b1 => ⟨(hL1 b b0 b1).1, (hL1 b b0 b1).2.2⟩)
  have N2 : ∀ a k, ¬ (a = 200 + 75 * t ∧ k = 6) → a ≠ 204 + 75 * t → a ≠ 206 + 75 * t → k ≠ 3 → c2 a k = c1 a k := fun a k q q2 q3 q4 => n2 a k q q2 q3 (fun ⟨i, _, _, _, e⟩ => q4 e)
  -- heights
  obtain ⟨c3, r3, h1, h2, h3, h4, h5, h6, h7, h8⟩ := heights_T (L := L) hw hg hD1 ht (fun b b0 b1 => (hL1 b b0 b1).2) hV ⟨(n2 _ _ (by omega) (by omega) (by omega) (fun ⟨i, _, _, e, _⟩ => by omega)).trans g1, g2⟩ (fun j j0 j1 => (N2 _ _ (by omega) (by omega) (by omega) (by decide)).trans (g6 j j0 j1).2.1) n5
  have h1' := h1
  have h0' : c2 (200 + 75 * t) 3 = m := (n2 _ _ (by omega) (by omega) (by omega) (fun ⟨i, _, _, e, _⟩ => by omega)).trans g1
  rw [h1, bd_s] at n1
  dsimp only at n1
  have dat : ∀ a k, 849 ≤ a → a ≤ 857 → r3 a k = r1 a k := fun a k q q2 => h4.1 _ _ (by omega) (by omega)
  -- the class's items behind these
  have E3 : ∀ j, 0 ≤ j → j < m → IE_ g c3 (207 + 75 * t + 2 * j) r3 (34 * t + j) := fun j j0 j1 => by
    have a := Fn_IE n2 ⟨j0, by omega⟩ (g6 j j0 j1).1
    have F : ∀ k, k ≠ 8 → c3 (207 + 75 * t + 2 * j) k = c2 (207 + 75 * t + 2 * j) k := fun k q => h3 _ _ (by omega) (fun ⟨i, _, _, _, e⟩ => q e)
    exact IE_fr a ⟨F 1 (by decide), F 2 (by decide), F 4 (by decide), F 5 (by decide)⟩ (fun k => h3 _ _ (by omega) (fun ⟨i, _, _, e, _⟩ => by omega)) (fun a q q2 => dat a _ q q2)
  have K3 : ∀ j, 0 ≤ j → j < m → kof_ (c3 (208 + 75 * t + 2 * j) 0) = r3 851 (34 * t + j) ∧ 0 ≤ r3 851 (34 * t + j) ∧ r3 851 (34 * t + j) < 4 := fun j j0 j1 => by
    obtain ⟨a, b⟩ := IE_kind (E3 j j0 j1)
    rw [kof_e, show 207 + 75 * t + 2 * j + 1 = 208 + 75 * t + 2 * j by omega] at a
    exact ⟨(Prod.mk.inj (Option.some.inj a)).1, b⟩
  have z3 : c3 (200 + 75 * t) 3 = m := by
    rw [h3 _ _ (by omega) (fun ⟨i, _, _, e, _⟩ => by omega), n2 _ _ (by omega) (by omega) (by omega) (fun ⟨i, _, _, e, _⟩ => by omega)]
    exact g1
  have R38 : ∀ k, 14 ≤ k → k < 47 → r3 838 k = g 11 k := fun k k0 k1 => by
    rw [h4.1 _ _ (by decide) (by decide)]
    exact hD1.2.2.2.2.2 k k0 k1
  have low : ∀ a k, a < 200 → c3 a k = vc a k := fun a k q => by
    rw [h3 _ _ (by omega) (fun ⟨i, _, _, e, _⟩ => by omega), n2 _ _ (by omega) (by omega) (by omega) (fun ⟨i, _, _, e, _⟩ => by omega)]
    exact F1 a k (Or.inl (by omega))
  have U3 : ∀ k, 0 ≤ k → k < 4 → c3 193 k = r3 838 (39 + k) ∧ 1 ≤ r3 838 (39 + k) ∧ r3 838 (39 + k) ≤ 4 := fun k k0 k1 => by
    rw [low _ _ (by decide), hU k k0 k1, R38 _ (by omega) (by omega)]
    exact ⟨rfl, hg.2.2.2.1 _ (by omega) (by omega)⟩
  obtain ⟨c4, f1, f2, f3⟩ := floor_T ht hm z3 (fun j j0 j1 => (K3 j j0 j1).1) U3
  have mat : ∀ i j, 0 ≤ i → i < j → j < m → c4 (204 + 75 * t) (34 * i + j) = c2 (204 + 75 * t) (34 * i + j) := fun i j _ _ _ => by
    rw [f2 _ _ (by omega), h3 _ _ (by omega) (fun ⟨i, _, _, e, _⟩ => by omega)]
  -- the list
  have hLG : LG_ t m c4 r3 := by
    refine ⟨ht, hm, ⟨(f2 _ _ (by omega)).trans z3, (h4.1 _ _ (by decide) (by decide)).trans g2⟩, fun i j i0 i1 j1 => ?_, fun j j0 j1 => ?_, fun k k0 k1 => ?_⟩
    · rw [mat i j i0 i1 j1, h6 i j i0 i1 j1]
      exact ⟨rfl, nL_6 hg hV ⟨i0, by omega⟩ ⟨by omega, j1⟩ (n5 i j i0 i1 j1)⟩
    · rw [f2 _ _ (by omega), f2 _ _ (by omega)]
      exact ⟨(h5 j j0 j1).1, K3 j j0 j1⟩
    · rw [f2 _ _ (by omega)]
      exact U3 k k0 k1
  obtain ⟨c5, r5, s1, s2, ⟨s3, s4, s5, s6⟩, s7, s8, s9⟩ := lay_T hLG
  have dat5 : ∀ a k, 849 ≤ a → a ≤ 857 → r5 a k = r1 a k := fun a k q q2 => (s8 _ _ (by omega) (by omega)).trans (dat a k q q2)
  have E5 : ∀ j, 0 ≤ j → j < m → IE_ g c5 (207 + 75 * t + 2 * j) r5 (34 * t + j) := fun j j0 j1 => by
    have F : ∀ a k, 200 ≤ a → ¬ (a = 200 + 75 * t ∧ k = 8) → c5 a k = c3 a k := fun a k q q2 => (s7 a k (by omega) (by omega)).trans (f2 a k q2)
    exact IE_fr (E3 j j0 j1) ⟨F _ _ (by omega) (by omega), F _ _ (by omega) (by omega), F _ _ (by omega) (by omega), F _ _ (by omega) (by omega)⟩ (fun k => F _ _ (by omega) (by omega)) (fun a q q2 => s8 _ _ (by omega) (by omega))
  have S5 : ∀ a k, 200 ≤ a → ¬ (a = 200 + 75 * t ∧ k = 8) → c5 a k = c3 a k := fun a k q q2 => (s7 a k (by omega) (by omega)).trans (f2 a k q2)
  have LSj : ∀ j, 0 ≤ j → j < m → LS_ r5 t j (c5 (207 + 75 * t + 2 * j) 6) := fun j j0 j1 => by
    rw [S5 _ _ (by omega) (by omega), h3 _ _ (by omega) (fun ⟨i, _, _, _, e⟩ => by omega), N2 _ _ (by omega) (by omega) (by omega) (by decide)]
    exact LS_fr (g6 j j0 j1).2.2 fun i i0 i1 => dat5 849 _ (by decide) (by decide)
  have mat5 : ∀ i j, 0 ≤ i → i < j → j < m → c5 (204 + 75 * t) (34 * i + j) = c2 (204 + 75 * t) (34 * i + j) := fun i j i0 i1 j1 => by rw [s7 _ _ (by omega) (by omega)]; exact mat i j i0 i1 j1
  have MX5 : ∀ i j, 0 ≤ i → i < j → j < m → MX_ (nL_ g L r5 t i j) (c2 (204 + 75 * t) (34 * i + j)) := fun i j i0 i1 j1 => by
    rw [nL_fr dat5]
    exact n5 i j i0 i1 j1
  have valid : ∀ i j, 0 ≤ i → i < j → j < m → 0 ≤ c2 (204 + 75 * t) (34 * i + j) → r5 858 (34 * t + i) + c2 (204 + 75 * t) (34 * i + j) ≤ r5 858 (34 * t + j) := fun i j i0 i1 j1 hn => by
    have := s4 i j i0 i1 j1
    rw [h6 i j i0 i1 j1] at this
    exact this hn
  obtain ⟨c6, gs, l1, l2, l3, l4, l5, l6⟩ := layAs_T (g := g) (vr := r5) ht hm ((S5 _ _ (by omega) (by omega)).trans z3) (fun j j0 j1 => ⟨E5 j j0 j1, LSj j j0 j1⟩) s3 (fun i j i0 i1 j1 hi hj => by
    have x := MX5 i j i0 i1 j1
    have y : 1 ≤ c2 (204 + 75 * t) (34 * i + j) := x.1 ((r5 849 (34 * t + i) = 2 ∧ kep_ g L r5 (34 * t + i) (34 * t + j)), 1) (by unfold nL_; exact List.mem_cons_of_mem _ List.mem_cons_self) ⟨hi, Or.inl hj⟩
    have := valid i j i0 i1 j1 (by omega)
    omega)
  have L6 : ∀ a k, ¬ (a = 200 + 75 * t ∧ 9 ≤ k ∧ k ≤ 11) → a ≠ 203 + 75 * t → k ≠ 7 → k ≠ 9 → k ≠ 10 → c6 a k = c5 a k := fun a k q q2 q3 q4 q5 => l2 a k q q2 (fun ⟨i, _, _, _, e⟩ => by omega)
  have L6b : ∀ a k, ¬ (a = 200 + 75 * t ∧ 9 ≤ k ∧ k ≤ 11) → a ≠ 203 + 75 * t → (a < 207 + 75 * t ∨ 275 + 75 * t ≤ a) → c6 a k = c5 a k := fun a k q q2 q3 => l2 a k q q2 (fun ⟨i, _, _, e, _⟩ => by omega)
  have L6c : ∀ j k, 0 ≤ j → j < m → c6 (207 + 75 * t + 2 * j + 1) k = c5 (207 + 75 * t + 2 * j + 1) k := fun j k j0 j1 => l2 _ _ (by omega) (by omega) (fun ⟨i, _, _, e, _⟩ => by omega)
  have x7 : c6 (200 + 75 * t) 7 = c3 (200 + 75 * t) 7 := by rw [L6b _ _ (by omega) (by omega) (by omega), S5 _ _ (by omega) (by omega)]
  have e859 : ∀ k, r5 859 k = r3 859 k := fun k => s8 _ _ (by decide) (by decide)
  refine ⟨c1, c3, c4, c5, c6, r1, r3, r5, m, _, e1, n1, f1, s1, l1, e2, h2, s2, ⟨⟨⟨?_, ?_, hm.1, hm.2⟩, ?_⟩, fun j j0 j1 => ⟨?_, ?_, ?_, ?_⟩, ⟨?_, ?_⟩, fun i j i0 i1 j1 => ?_, ⟨fun j j0 j1 => ?_, ?_⟩, ?_, ⟨fun j j0 j1 => ?_, fun i j i0 i1 j1 hn => ?_, l4⟩, ⟨fun q q0 q1 => ?_, fun j j0 j1 => ?_⟩, ⟨fun j j0 j1 => ⟨?_, ?_⟩, ?_, l6⟩, ?_, fun j j0 j1 => ?_, ⟨c2, c3, h1', h0', fun j j0 j1 => ⟨?_, ?_⟩, fun i j i0 i1 j1 => ?_⟩, ⟨c4, c5, ?_, ?_, fun i j i0 i1 j1 => ?_, fun j j0 j1 => ⟨?_, ?_⟩, fun k k0 k1 => ?_⟩⟩, fun a k q => ?_, ⟨fun a k q => ?_, fun a k q q2 q3 => ?_, fun k q => ⟨?_, ?_⟩⟩⟩
  · rw [L6b _ _ (by omega) (by omega) (by omega), S5 _ _ (by omega) (by omega)]; exact z3
  · rw [s8 _ _ (by decide) (by decide), h4.1 _ _ (by decide) (by decide)]; exact g2
  · rw [L6b _ _ (by omega) (by omega) (by omega), S5 _ _ (by omega) (by omega), h3 _ _ (by omega) (fun ⟨i, _, _, e, _⟩ => by omega), N2 _ _ (by omega) (by omega) (by omega) (by decide), s8 _ _ (by decide) (by decide), h4.1 _ _ (by decide) (by decide)]
    exact g5
  · exact IE_fr (E5 j j0 j1) ⟨L6 _ _ (by omega) (by omega) (by decide) (by decide) (by decide), L6 _ _ (by omega) (by omega) (by decide) (by decide) (by decide), L6 _ _ (by omega) (by omega) (by decide) (by decide) (by decide), L6 _ _ (by omega) (by omega) (by decide) (by decide) (by decide)⟩ (fun k => L6c j k j0 j1) (fun _ _ _ => rfl)
  · rw [L6 _ _ (by omega) (by omega) (by decide) (by decide) (by decide)]
    exact LSj j j0 j1
  · rw [dat5 849 _ (by decide) (by decide)]
    exact g7 j j0 j1
  · rw [L6 _ _ (by omega) (by omega) (by decide) (by decide) (by decide), S5 _ _ (by omega) (by omega), h3 _ _ (by omega) (fun ⟨i, _, _, _, e⟩ => by omega), n4 j j0 j1]
    unfold lat_
    rw [dat5 851 _ (by decide) (by decide)]
  · rw [L6b _ _ (by omega) (by omega) (by omega), S5 _ _ (by omega) (by omega), h3 _ _ (by omega) (fun ⟨i, _, _, e, _⟩ => by omega), N2 _ _ (by omega) (by omega) (by omega) (by decide), g8]
    exact ct_fr sp_ fun j j0 j1 => by unfold sp_; rw [dat5 849 _ (by decide) (by decide)]
  · rw [L6b _ _ (by omega) (by omega) (by omega), S5 _ _ (by omega) (by omega), h3 _ _ (by omega) (fun ⟨i, _, _, e, _⟩ => by omega), n3]
    exact ct_fr (pl_ g) fun j j0 j1 => by unfold pl_ lat_; rw [dat5 849 _ (by decide) (by decide), dat5 851 _ (by decide) (by decide)]
  · rw [L6b _ _ (by omega) (by omega) (by omega), mat5 i j i0 i1 j1]
    exact MX5 i j i0 i1 j1
  · have a := h5 j j0 j1
    have b := h7 j j0 j1
    rw [L6 _ _ (by omega) (by omega) (by decide) (by decide) (by decide), S5 _ _ (by omega) (by omega), x7, e859]
    omega
  · obtain ⟨j, j0, j1, j2⟩ := h8
    exact ⟨j, j0, j1, by rw [x7, e859]; exact j2⟩
  · rw [x7, L6b _ _ (by omega) (by omega) (by omega), s7 _ _ (by omega) (by omega), f3]
    have eU : ∀ k : Nat, k ≤ 4 → ∀ p : Int, fv_ (fun k => r3 838 (39 + k)) (fun k => ct_ (kc_ r3 t k) m.toNat) p k = fv_ (fun k => g 11 (39 + k)) (fun k => ct_ (kc_ r5 t k) m.toNat) p k := by
      intro k
      induction k with
      | zero => exact fun _ p => rfl
      | succ k ih =>
        intro hk p
        simp only [fv_]
        rw [ih (by omega) p, R38 _ (by omega) (by omega), ct_congr (f := kc_ r3 t k) (h := kc_ r5 t k) m.toNat fun i i0 i1 => by unfold kc_; rw [dat5 851 _ (by decide) (by decide), dat 851 _ (by decide) (by decide)]]
    exact eU 4 (by decide) _
  · rw [(l3 j j0 j1).1]
    exact ⟨rfl, (s3 j j0 j1).2⟩
  · rw [L6b _ _ (by omega) (by omega) (by omega), mat5 i j i0 i1 j1] at hn ⊢
    exact valid i j i0 i1 j1 hn
  · have o := s5 q q0 q1
    rw [(l3 q q0 q1).2.1]
    refine ⟨o.1, fun q' z0 z1 => ?_⟩
    rw [(l3 q' z0 (by omega)).2.1]
    exact o.2 q' z0 z1
  · obtain ⟨q, q0, q1, q2⟩ := s6 j j0 j1
    exact ⟨q, q0, q1, by rw [(l3 q q0 q1).2.1]; exact q2⟩
  · rw [(l3 j j0 j1).2.2.1]
    exact (l3 j j0 j1).2.2.2.1
  · exact (l3 j j0 j1).2.2.2.2
  · rw [l5]
    exact ct_congr _ fun i i0 i1 => ((l3 i i0 (by omega)).2.2.1).symm
  · rw [dat5 850 _ (by decide) (by decide), s8 846 _ (by decide) (by decide), s8 847 _ (by decide) (by decide), h4.1 846 _ (by decide) (by decide), h4.1 847 _ (by decide) (by decide)]
    exact g9
  · obtain ⟨i, i0, i1, i2⟩ := bl j j0 (by dsimp only; omega)
    dsimp only at i1 i2
    refine ⟨i, i0, ?_, ?_⟩
    · rw [s8 847 _ (by decide) (by decide), h4.1 847 _ (by decide) (by decide)]
      exact i1
    · rw [dat5 850 _ (by decide) (by decide), s8 846 _ (by decide) (by decide), h4.1 846 _ (by decide) (by decide)]
      exact i2
  · exact (N2 _ _ (by omega) (by omega) (by omega) (by decide)).trans (g6 j j0 j1).2.1
  · rw [L6 _ _ (by omega) (by omega) (by decide) (by decide) (by decide), S5 _ _ (by omega) (by omega)]
  · rw [L6b _ _ (by omega) (by omega) (by omega), mat5 i j i0 i1 j1]
  · rw [l4]; exact s1
  · exact (f2 _ _ (by omega)).trans z3
  · rw [mat i j i0 i1 j1, L6b _ _ (by omega) (by omega) (by omega), mat5 i j i0 i1 j1]
  · rw [f2 _ _ (by omega), L6 _ _ (by omega) (by omega) (by decide) (by decide) (by decide), S5 _ _ (by omega) (by omega)]
  · rw [f2 _ _ (by omega), show 208 + 75 * t + 2 * j = 207 + 75 * t + 2 * j + 1 by omega, L6c j 0 j0 j1, S5 _ _ (by omega) (by omega)]
  · rw [f2 _ _ (by omega), low _ _ (by decide)]; exact hU k k0 k1
  · rw [l2 a k (by omega) (by omega) (fun ⟨i, _, _, e, _⟩ => by omega), s7 _ _ (by omega) (by omega), f2 _ _ (by omega), h3 _ _ (by omega) (fun ⟨i, _, _, e, _⟩ => by omega), n2 _ _ (by omega) (by omega) (by omega) (fun ⟨i, _, _, e, _⟩ => by omega)]
    exact F1 a k (by omega)
  · rw [s8 _ _ (by omega) (by omega), h4.1 _ _ (by omega) (by omega)]
    exact F2.1 a k (by omega) (by omega) (by omega)
  · by_cases c : a = 858
    · rw [c, s9 k q3, h4.1 _ _ (by decide) (by decide)]
      exact F2.1 _ _ (by decide) (by decide) (by decide)
    · by_cases c2 : a = 859
      · rw [c2, e859, h4.2 k q3]
        exact F2.1 _ _ (by decide) (by decide) (by decide)
      · rw [s8 _ _ c (by omega), h4.1 _ _ c2 (by omega)]
        exact F2.2.1 a k q (by omega) q3
  · rw [s8 _ _ (by decide) (by decide), h4.1 _ _ (by decide) (by decide)]
    exact (F2.2.2 k q).1
  · rw [s8 _ _ (by decide) (by decide), h4.1 _ _ (by decide) (by decide)]
    exact (F2.2.2 k q).2
