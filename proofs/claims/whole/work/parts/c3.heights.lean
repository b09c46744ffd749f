/-! layer 2: heights, in both -/
theorem nL_fr {g u v : V_} {L : Int → Int} (h : ∀ a k, 849 ≤ a → a ≤ 857 → u a k = v a k) (t i j : Int) : nL_ g L u t i j = nL_ g L v t i j := by
  have e : ∀ a, 849 ≤ a → a ≤ 857 → u a = v a := fun a a0 a1 => funext fun k => h a k a0 a1
  unfold nL_ kep_ lat_ rd_ sto_ loa_
  rw [e 849 (by decide) (by decide), e 850 (by decide) (by decide), e 851 (by decide) (by decide), e 852 (by decide) (by decide), e 854 (by decide) (by decide), e 855 (by decide) (by decide), e 856 (by decide) (by decide), e 857 (by decide) (by decide)]
theorem IV_fr {g u v : V_} {t m : Int} (h : ∀ a k, 849 ≤ a → a ≤ 857 → u a k = v a k) (hV : IV_ g v t m) : IV_ g u t m := by
  have e : ∀ a, 849 ≤ a → a ≤ 857 → u a = v a := fun a a0 a1 => funext fun k => h a k a0 a1
  unfold IV_
  rw [e 849 (by decide) (by decide), e 850 (by decide) (by decide), e 851 (by decide) (by decide), e 857 (by decide) (by decide)]
  exact hV
theorem nL_6 {g v : V_} {L : Int → Int} {t m i j n : Int} (hg : RG_ g) (hV : IV_ g v t m) (hi : 0 ≤ i ∧ i < m) (hj : 0 ≤ j ∧ j < m) (h : MX_ (nL_ g L v t i j) n) : -2 ≤ n ∧ n ≤ 6 := by
  have ki := (hV.2 i hi.1 hi.2).1
  have kj := (hV.2 j hj.1 hj.2).1
  have li := hg.2.2.2.2 (43 + v 851 (34 * t + i)) (by omega) (by omega)
  have lj := hg.2.2.2.2 (43 + v 851 (34 * t + j)) (by omega) (by omega)
  refine ⟨h.2.2, MX_le h (by decide) fun q hq _ => ?_⟩
  simp only [nL_, List.mem_cons, List.not_mem_nil, or_false] at hq
  unfold lat_ at hq
  rcases hq with e | e | e | e | e | e | e | e <;> rw [e] <;> dsimp only <;> (try split) <;> omega
/-- frames of heights -/
def Fh1_ (t : Int) (u w : V_) : Prop := ∀ a k, ¬ (a = 200 + 75 * t ∧ k = 7) → ¬ (∃ j, 0 ≤ j ∧ j < 34 ∧ a = 207 + 75 * t + 2 * j ∧ k = 8) → w a k = u a k
def Fh2_ (t : Int) (u w : V_) : Prop := (∀ a k, a ≠ 859 → a ≠ 862 → w a k = u a k) ∧ ∀ k, ¬ (34 * t ≤ k ∧ k < 34 * t + 34) → w 859 k = u 859 k
theorem heights_T {g vc vr : V_} {L : Int → Int} {t m : Int} (hw : WF_ g) (hg : RG_ g) (hD : D_ vr g) (ht : 0 ≤ t ∧ t < 8) (hL : ∀ b, 0 ≤ b → b < g 0 0 → vr 843 b = L b ∧ r6_ (L b)) (hV : IV_ g vr t m) (hm : vc (200 + 75 * t) 3 = m ∧ vr 848 t = m) (hz : ∀ j, 0 ≤ j → j < m → vc (207 + 75 * t + 2 * j) 8 = 0) (hM : ∀ i j, 0 ≤ i → i < j → j < m → MX_ (nL_ g L vr t i j) (vc (204 + 75 * t) (34 * i + j))) : ∃ vc' vr', fX10_findHeights (200 + 75 * t) vc = some (0, vc') ∧ fX12_fillsNeeds 814 t vr = some (0, vr') ∧ Fh1_ t vc vc' ∧ Fh2_ t vr vr' ∧ (∀ j, 0 ≤ j → j < m → vc' (207 + 75 * t + 2 * j) 8 = vr' 859 (34 * t + j) ∧ 0 ≤ vr' 859 (34 * t + j) ∧ vr' 859 (34 * t + j) ≤ 6 * (34 - j)) ∧ (∀ i j, 0 ≤ i → i < j → j < m → vr' 862 (34 * i + j) = vc (204 + 75 * t) (34 * i + j)) ∧ (∀ j, 0 ≤ j → j < m → vr' 859 (34 * t + j) + 1 ≤ vc' (200 + 75 * t) 7) ∧ ∃ j, 0 ≤ j ∧ j < m ∧ vc' (200 + 75 * t) 7 = vr' 859 (34 * t + j) + 1 := by
  have hm0 := hV.1
  unfold fX10_findHeights fX12_fillsNeeds
  rw [lt_d, up_n (show ¬ (200 + 75 * t = 200 + 75 * t ∧ (3 : Int) = 7) by omega), hm.1, wr_id (by omega), lt_d, ck_t ht, show (814 + 34 : Int) = 848 from rfl, hm.2, lt_d, wr_id (by omega), lt_d]
  obtain ⟨s, e, -, h1, h2, h3, h4, h5, h6⟩ := lp_d (σ := V_ × V_) (α := Option (Int × V_) × Option (Int × V_)) (F := fun n i s => (fX10_findHeights_12 n (200 + 75 * t) i s.1, fX12_fillsNeeds_11 n 814 t m i s.2)) (K := fun s => (some (0, s.1), some (0, s.2))) (e := -1) (I := fun i s => (-1 ≤ i ∧ i < m) ∧ Fh1_ t vc s.1 ∧ Fh2_ t vr s.2 ∧ (∀ j, i < j → j < m → s.1 (207 + 75 * t + 2 * j) 8 = s.2 859 (34 * t + j) ∧ 0 ≤ s.2 859 (34 * t + j) ∧ s.2 859 (34 * t + j) ≤ 6 * (34 - j)) ∧ (∀ i' j, i < i' → i' < j → j < m → s.2 862 (34 * i' + j) = vc (204 + 75 * t) (34 * i' + j)) ∧ (∀ j, 0 ≤ j → j ≤ i → s.1 (207 + 75 * t + 2 * j) 8 = 0) ∧ ((i = m - 1 ∧ s.1 (200 + 75 * t) 7 = 0) ∨ ((∀ j, i < j → j < m → s.2 859 (34 * t + j) + 1 ≤ s.1 (200 + 75 * t) 7) ∧ ∃ j, i < j ∧ j < m ∧ s.1 (200 + 75 * t) 7 = s.2 859 (34 * t + j) + 1))) (fun n i s h hi => by
    obtain ⟨i0, a1, a2, a3, a4, a5, a6⟩ := h
    have i0' : 0 ≤ i := by omega
    obtain ⟨u, e, ⟨-, -⟩, b1, b2, b3, b4, b5, b6⟩ := lp_s (σ := V_ × V_) (α := Option (Int × V_) × Option (Int × V_)) (F := fun n' j s => (fX10_findHeights_20 (fX10_findHeights_12 n) n' (200 + 75 * t) i j s.1, fX12_fillsNeeds_32 (fX12_fillsNeeds_11 n) n' 814 t m i j s.2)) (K := fun u => (fX10_findHeights_12 n (200 + 75 * t) (i - 1) (up_ u.1 (200 + 75 * t) 7 (mx_ (u.1 (200 + 75 * t) 7) (u.1 (207 + 75 * t + 2 * i) 8 + 1))), fX12_fillsNeeds_11 n 814 t m (i - 1) u.2)) (e := m) (I := fun j u => (i < j ∧ j ≤ m) ∧ (∀ a k, ¬ (a = 207 + 75 * t + 2 * i ∧ k = 8) → u.1 a k = s.1 a k) ∧ (∀ a k, a ≠ 859 → a ≠ 862 → u.2 a k = s.2 a k) ∧ (∀ k, k ≠ 34 * t + i → u.2 859 k = s.2 859 k) ∧ (u.1 (207 + 75 * t + 2 * i) 8 = u.2 859 (34 * t + i) ∧ 0 ≤ u.2 859 (34 * t + i) ∧ u.2 859 (34 * t + i) ≤ 6 * (34 - i)) ∧ (∀ j', i < j' → j' < j → u.2 862 (34 * i + j') = vc (204 + 75 * t) (34 * i + j')) ∧ ∀ k, ¬ (∃ j', i < j' ∧ j' < m ∧ k = 34 * i + j') → u.2 862 k = s.2 862 k) (fun n' j u h hj => by
      obtain ⟨⟨j0, j1⟩, c1, c2, c3, ⟨c4, c4a, c4b⟩, c5, c6⟩ := h
      have hF2 : ∀ a k, a ≠ 859 → a ≠ 862 → u.2 a k = vr a k := fun a k q q2 => (c2 a k q q2).trans (a2.1 a k q q2)
      have hDu : D_ u.2 g := D_fr hD (hF2 _ _ (by omega) (by omega)) (fun a k q q2 => hF2 _ _ (by omega) (by omega)) (fun k _ _ => hF2 _ _ (by omega) (by omega))
      have hdat : ∀ a k, 849 ≤ a → a ≤ 857 → u.2 a k = vr a k := fun a k q q2 => hF2 _ _ (by omega) (by omega)
      obtain ⟨nn, o1, o2⟩ := need_e (L := L) hw hg hDu ht (fun b b0 b1 => by rw [hF2 843 b (by omega) (by omega)]; exact hL b b0 b1) (IV_fr hdat hV) ⟨i0', j0⟩ hj
      rw [nL_fr hdat] at o2
      have en : nn = vc (204 + 75 * t) (34 * i + j) := MX_u o2 (hM i j i0' j0 hj) (fun q hq hh => ⟨q, hq, hh, rfl⟩) (fun q hq hh => ⟨q, hq, hh, rfl⟩)
      have n6 := nL_6 hg hV ⟨i0', by omega⟩ ⟨by omega, hj⟩ o2
      have ec : u.1 (204 + 75 * t) (34 * i + j) = nn := by rw [c1 _ _ (by omega), a1 _ _ (by omega) (fun ⟨q, _, _, e, _⟩ => by omega), en]
      have hsz : u.1 (200 + 75 * t) 3 = m := by rw [c1 _ _ (by omega), a1 _ _ (by omega) (fun ⟨q, _, _, e, _⟩ => by omega), hm.1]
      have hy : u.1 (207 + 75 * t + 2 * j) 8 = u.2 859 (34 * t + j) ∧ 0 ≤ u.2 859 (34 * t + j) ∧ u.2 859 (34 * t + j) ≤ 6 * (34 - j) := by
        rw [c1 _ _ (by omega), c3 _ (by omega)]
        exact a3 j j0 hj
      have en2 : ∀ w : V_, w (204 + 75 * t) (34 * i + j) = nn → fX10_needOf (200 + 75 * t) i j w = some (nn, w) := fun w hw' => by
        unfold fX10_needOf
        rw [wr_id (show -2147483648 ≤ i * 34 ∧ i * 34 < 2147483648 by omega), wr_id (show -2147483648 ≤ i * 34 + j ∧ i * 34 + j < 2147483648 by omega), ck_t (by omega), show 200 + 75 * t + 4 = 204 + 75 * t by omega, show i * 34 + j = 34 * i + j by omega, hw']
      by_cases neg : nn < 0
      · refine ⟨(u.1, up_ u.2 862 (34 * i + j) nn), ?_, by omega, c1, fun a k q q2 => ?_, fun k q => ?_, ?_, fun j' q q2 => ?_, fun k q => ?_⟩
        · rw [Prod.mk.injEq]
          constructor
          · rw [fX10_findHeights_20, hsz, if_neg (by omega), en2 _ ec, bd_s, if_pos neg, lt_d, wr_id (by omega)]
          · rw [fX12_fillsNeeds_32, if_neg (by omega), wr_id (show -2147483648 ≤ 34 * t ∧ 34 * t < 2147483648 by omega), wr_id (show -2147483648 ≤ 34 * t + i ∧ 34 * t + i < 2147483648 by omega), wr_id (show -2147483648 ≤ 34 * t + j ∧ 34 * t + j < 2147483648 by omega), o1, bd_s, wr_id (show -2147483648 ≤ 34 * i ∧ 34 * i < 2147483648 by omega), wr_id (show -2147483648 ≤ 34 * i + j ∧ 34 * i + j < 2147483648 by omega), ck_t (by omega), lt_d, ck_t (by omega), if_pos (by rw [up_s ⟨rfl, rfl⟩]; exact neg), lt_d, wr_id (by omega)]
            rfl
        · dsimp only; rw [up_n (by omega)]; exact c2 a k q q2
        · dsimp only; rw [up_n (by omega)]; exact c3 k q
        · dsimp only; rw [up_n (by omega)]; exact ⟨c4, c4a, c4b⟩
        · dsimp only
          by_cases e : j' = j
          · rw [e, up_s ⟨rfl, rfl⟩]; exact en
          · rw [up_n (by omega)]; exact c5 j' q (by omega)
        · dsimp only
          rw [up_n (fun z => q ⟨j, j0, hj, z.2⟩)]; exact c6 k q
      · refine ⟨(up_ u.1 (207 + 75 * t + 2 * i) 8 (mx_ (u.1 (207 + 75 * t + 2 * i) 8) (nn + u.1 (207 + 75 * t + 2 * j) 8)), up_ (up_ u.2 862 (34 * i + j) nn) 859 (34 * t + i) (mx_ (u.2 859 (34 * t + i)) (nn + u.2 859 (34 * t + j)))), ?_, by omega, fun a k q => ?_, fun a k q q2 => ?_, fun k q => ?_, ?_, fun j' q q2 => ?_, fun k q => ?_⟩
        · rw [Prod.mk.injEq]
          constructor
          · rw [fX10_findHeights_20, hsz, if_neg (by omega), en2 _ ec, bd_s, if_neg neg, ck_t (by omega), ck_t (by omega), show (200 + 75 * t + 2) + (5 + 2 * i) = 207 + 75 * t + 2 * i by omega, show (200 + 75 * t + 2) + (5 + 2 * j) = 207 + 75 * t + 2 * j by omega]
            try dsimp only
            rw [en2 _ ec, bd_s, ck_t (by omega), lt_d, lt_d]
            try dsimp only
            rw [wr_id (show -2147483648 ≤ nn + u.1 (207 + 75 * t + 2 * j) 8 ∧ nn + u.1 (207 + 75 * t + 2 * j) 8 < 2147483648 by omega), wr_id (by omega)]
          · rw [fX12_fillsNeeds_32, if_neg (by omega), wr_id (show -2147483648 ≤ 34 * t ∧ 34 * t < 2147483648 by omega), wr_id (show -2147483648 ≤ 34 * t + i ∧ 34 * t + i < 2147483648 by omega), wr_id (show -2147483648 ≤ 34 * t + j ∧ 34 * t + j < 2147483648 by omega), o1, bd_s, wr_id (show -2147483648 ≤ 34 * i ∧ 34 * i < 2147483648 by omega), wr_id (show -2147483648 ≤ 34 * i + j ∧ 34 * i + j < 2147483648 by omega), ck_t (by omega), lt_d, ck_t (by omega), if_neg (by rw [up_s ⟨rfl, rfl⟩]; exact neg), ck_t (by omega), ck_t (by omega), ck_t (by omega)]
            try dsimp only [Int.reduceAdd]
            rw [up_s ⟨rfl, rfl⟩, up_n (show ¬ ((859 : Int) = 862 ∧ 34 * t + i = 34 * i + j) by omega), up_n (show ¬ ((859 : Int) = 862 ∧ 34 * t + j = 34 * i + j) by omega), wr_id (show -2147483648 ≤ nn + u.2 859 (34 * t + j) ∧ nn + u.2 859 (34 * t + j) < 2147483648 by omega), more_e, bd_s, ck_t (by omega), lt_d, lt_d, wr_id (by omega), mx_e]
        · dsimp only; rw [up_n q]; exact c1 a k q
        · dsimp only; rw [up_n (by omega), up_n (by omega)]; exact c2 a k q q2
        · dsimp only; rw [up_n (by omega), up_n (by omega)]; exact c3 k q
        · dsimp only
          rw [up_s ⟨rfl, rfl⟩, up_s ⟨rfl, rfl⟩, c4, hy.1]
          refine ⟨rfl, ?_⟩
          rw [mx_e]
          split <;> omega
        · dsimp only
          rw [up_n (by omega)]
          by_cases e : j' = j
          · rw [e, up_s ⟨rfl, rfl⟩]; exact en
          · rw [up_n (by omega)]; exact c5 j' q (by omega)
        · dsimp only
          rw [up_n (by omega), up_n (fun z => q ⟨j, j0, hj, z.2⟩)]; exact c6 k q) (fun n' u h => by
      obtain ⟨-, c1, c2, c3, ⟨c4, c4a, c4b⟩, c5, c6⟩ := h
      have hsz : u.1 (200 + 75 * t) 3 = m := by rw [c1 _ _ (by omega), a1 _ _ (by omega) (fun ⟨q, _, _, e, _⟩ => by omega), hm.1]
      rw [Prod.mk.injEq]
      constructor
      · rw [fX10_findHeights_20, hsz, if_pos (by omega), ck_t (by omega), show (200 + 75 * t + 2) + (5 + 2 * i) = 207 + 75 * t + 2 * i by omega, wr_id (by omega), lt_d, lt_d, wr_id (by omega), show i + (-1) = i - 1 by omega]
      · rw [fX12_fillsNeeds_32, if_pos (by omega), lt_d, wr_id (by omega), show i + (-1) = i - 1 by omega]) (m - (i + 1)).toNat fu_ (i + 1) (s.1, up_ s.2 859 (34 * t + i) 0) ⟨by omega, fun _ _ _ => rfl, fun a k q q2 => by dsimp only; rw [up_n (by omega)], fun k q => by dsimp only; rw [up_n (by omega)], by dsimp only; rw [up_s ⟨rfl, rfl⟩, a5 i i0' (by omega)]; omega, fun j' q q2 => by omega, fun k q => by dsimp only; rw [up_n (by omega)]⟩ (by omega) (by unfold fu_; omega)
    obtain ⟨e1, e2⟩ := Prod.mk.inj e
    have hz1 : s.1 (207 + 75 * t + 2 * i) 8 = 0 := a5 i i0' (by omega)
    refine ⟨(up_ u.1 (200 + 75 * t) 7 (mx_ (u.1 (200 + 75 * t) 7) (u.1 (207 + 75 * t + 2 * i) 8 + 1)), u.2), ?_, by omega, fun a k q q2 => ?_, ⟨fun a k q q2 => ?_, fun k q => ?_⟩, fun j q q2 => ?_, fun i' j q q2 q3 => ?_, fun j q q2 => ?_, ?_⟩
    · rw [Prod.mk.injEq]
      constructor
      · rw [fX10_findHeights_12, if_neg (by omega), lt_d, wr_id (by omega)]
        exact e1
      · rw [fX12_fillsNeeds_11, if_neg (by omega), wr_id (show -2147483648 ≤ 34 * t ∧ 34 * t < 2147483648 by omega), wr_id (show -2147483648 ≤ 34 * t + i ∧ 34 * t + i < 2147483648 by omega), ck_t (by omega), lt_d, lt_d, wr_id (by omega)]
        exact e2
    · dsimp only
      rw [up_n q, b1 _ _ (fun z => q2 ⟨i, i0', by omega, z.1, z.2⟩)]
      exact a1 a k q q2
    · dsimp only
      rw [b2 _ _ q q2]
      exact a2.1 a k q q2
    · dsimp only
      rw [b3 _ (by omega)]
      exact a2.2 k q
    · dsimp only
      rw [up_n (by omega)]
      by_cases c : j = i
      · rw [c]; exact b4
      · rw [b1 _ _ (by omega), b3 _ (by omega)]
        exact a3 j (by omega) q2
    · dsimp only
      by_cases c : i' = i
      · rw [c] at q2 ⊢
        exact b5 j q2 q3
      · rw [b6 _ (fun ⟨j', z1, z2, z3⟩ => by omega)]
        exact a4 i' j (by omega) q2 q3
    · dsimp only
      rw [up_n (by omega), b1 _ _ (by omega)]
      exact a5 j q (by omega)
    · right
      dsimp only
      rw [up_s ⟨rfl, rfl⟩, b4.1, mx_e, b1 (200 + 75 * t) 7 (by omega)]
      rcases a6 with ⟨c1, c2⟩ | ⟨c1, j, c2, c3, c4⟩
      · rw [c2, if_pos (by omega)]
        refine ⟨fun j q q2 => ?_, i, by omega, by omega, rfl⟩
        rw [show j = i by omega]
        exact Int.le_refl _
      · have e9 : ∀ j, i < j → u.2 859 (34 * t + j) = s.2 859 (34 * t + j) := fun j q => b3 _ (by omega)
        by_cases c : s.1 (200 + 75 * t) 7 ≤ u.2 859 (34 * t + i) + 1
        · rw [if_pos c]
          refine ⟨fun j' q q2 => ?_, i, by omega, by omega, rfl⟩
          by_cases d : j' = i
          · rw [d]; exact Int.le_refl _
          · rw [e9 j' (by omega)]
            have := c1 j' (by omega) q2
            omega
        · rw [if_neg c]
          refine ⟨fun j' q q2 => ?_, j, by omega, c3, by rw [e9 j c2]; exact c4⟩
          by_cases d : j' = i
          · rw [d]; omega
          · rw [e9 j' (by omega)]
            exact c1 j' (by omega) q2) (fun n s _ => by
    rw [Prod.mk.injEq]
    exact ⟨by rw [fX10_findHeights_12, if_pos (by decide)], by rw [fX12_fillsNeeds_11, if_pos (by decide)]⟩) m.toNat fu_ (m - 1) (up_ vc (200 + 75 * t) 7 0, vr) ⟨by omega, fun a k q q2 => up_n q, ⟨fun _ _ _ _ => rfl, fun _ _ => rfl⟩, fun j q q2 => by omega, fun i' j q q2 q3 => by omega, fun j q q2 => by dsimp only; rw [up_n (by omega)]; exact hz j q (by omega), Or.inl ⟨rfl, up_s ⟨rfl, rfl⟩⟩⟩ (by omega) (by unfold fu_; omega)
  obtain ⟨e1, e2⟩ := Prod.mk.inj e
  refine ⟨s.1, s.2, e1, e2, h1, h2, fun j j0 j1 => h3 j (by omega) j1, fun i j i0 i1 j1 => h4 i j (by omega) i1 j1, ?_⟩
  rcases h6 with ⟨c, -⟩ | ⟨c1, j, c2, c3, c4⟩
  · omega
  · exact ⟨fun j j0 j1 => c1 j (by omega) j1, j, by omega, c3, c4⟩
