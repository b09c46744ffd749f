/-! layer 2: what one unit more would save, in both -/
def Us_ (c1 uc : V_) : Prop := ∀ a k, ¬ (a = 194 ∧ k = 5) → ¬ (195 ≤ a ∧ a ≤ 199) → uc a k = c1 a k
def Uz_ (v1 ur : V_) : Prop := ∀ a k, a ≠ 858 → a ≠ 859 → a ≠ 862 → a ≠ 863 → ur a k = v1 a k
theorem Us_tr {a b c : V_} (h : Us_ a b) (h2 : Us_ b c) : Us_ a c := fun x k q q2 => (h2 x k q q2).trans (h x k q q2)
theorem Uz_tr {a b c : V_} (h : Uz_ a b) (h2 : Uz_ b c) : Uz_ a c := fun x k q q2 q3 q4 => (h2 x k q q2 q3 q4).trans (h x k q q2 q3 q4)
theorem csaved_step {uc wc : V_} {x s y t len M : Int} (n : Nat) (ht : 0 ≤ t ∧ t < 8) (h0 : uc 189 0 = M) (hM : t < M) (e : fX2_lay 194 (200 + 75 * t) 193 uc = some (len, wc)) (hf : Us_ uc wc) (hb : 0 ≤ uc (201 + 75 * t) 0 ∧ uc (201 + 75 * t) 0 < 8) : fX4_savedBy_27 (n + 1) 189 x 140 s y t uc = fX4_savedBy_27 n 189 x 140 (wr_ (s + wr_ (wr_ (uc (200 + 75 * t) 9 - len) * uc 141 (14 + uc (201 + 75 * t) 0)))) y (t + 1) wc := by
  rw [fX4_savedBy_27, h0, if_neg (show ¬ M ≤ t by omega), ck_t ht, ck_t ht]
  have a1 : (189 : Int) + 1 + (10 + 75 * t) = 200 + 75 * t := by omega
  rw [a1]
  simp only [Int.reduceAdd]
  rw [e, bd_s, ck_t ht]
  dsimp only
  have a2 : (200 : Int) + 75 * t + 1 = 201 + 75 * t := by omega
  rw [a2, hf (201 + 75 * t) 0 (by omega) (by omega)]
  unfold fX7_begunOf
  simp only [Int.reduceAdd]
  rw [wr_id (show -2147483648 ≤ 14 + uc (201 + 75 * t) 0 ∧ 14 + uc (201 + 75 * t) 0 < 2147483648 by omega), ck_t (by omega), bd_s, lt_d, lt_d, wr_id (show -2147483648 ≤ t + 1 ∧ t + 1 < 2147483648 by omega), hf 141 _ (by omega) (by omega)]
theorem saved_T {g vc vr : V_} {p x : Int} (hw : WF_ g) (hg : RG_ g) (hx : 0 ≤ x ∧ x < 4) (hC : C_ vc p g) (hD : D_ vr g) (hP : PL_ g p vc vr) : ∃ z vc', fX4_savedBy 189 x 140 vc = some (z, vc') ∧ Us_ vc vc' ∧ ((g 11 (39 + x) = 4 ∧ z = 0) ∨ (g 11 (39 + x) ≠ 4 ∧ ∃ vr', fX12_saved_52 fu_ 814 0 0 (up_ (up_ vr 838 (39 + x) (wr_ (vr 838 (39 + x) + 1))) 814 69 0) = some (z, vr') ∧ Uz_ (up_ (up_ vr 838 (39 + x) (wr_ (vr 838 (39 + x) + 1))) 814 69 0) vr')) := by
  have hn := hw.1
  obtain ⟨hT, ⟨L, -, hL, hPT⟩, -, -, hU⟩ := hP
  have t2 := hT.2.1
  have u4 := hg.2.2.2.1 (39 + x) (by omega) (by omega)
  have hL' : ∀ b, 0 ≤ b → b < g 0 0 → vr 843 b = L b ∧ r6_ (L b) := fun b b0 b1 => (hL b b0 b1).2
  have e193 : vc 193 x = g 11 (39 + x) := hU x hx.1 hx.2
  unfold fX4_savedBy
  simp only [Int.reduceAdd]
  rw [ck_t hx, lt_d, ck_t hx, lt_d, e193, wr_id (show -2147483648 ≤ g 11 (39 + x) + 1 ∧ g 11 (39 + x) + 1 < 2147483648 by omega)]
  generalize hy : mn_ 4 (g 11 (39 + x) + 1) = y
  have c1f : ∀ a k, ¬ (a = 193 ∧ k = x) → up_ vc 193 x y a k = vc a k := fun a k h => up_n h
  have c1v : up_ vc 193 x y 193 x = y := up_s ⟨rfl, rfl⟩
  generalize up_ vc 193 x y = c1 at c1f c1v ⊢
  have body : ∀ t, 0 ≤ t → t < vr 814 52 → ∀ uc, Us_ c1 uc → ∃ m, PT_ g L t m vc vr ∧ US_ t m vc uc ∧ uc 189 0 = vr 814 52 ∧ uc (200 + 75 * t) 9 = vr 858 (34 * t + (m - 1)) + 1 ∧ uc (201 + 75 * t) 0 = vr 846 (4 * t) ∧ (0 ≤ vr 846 (4 * t) ∧ vr 846 (4 * t) < g 0 0) ∧ uc 141 (14 + vr 846 (4 * t)) = g 11 (14 + vr 846 (4 * t)) := fun t t0 t1 uc hf => by
    obtain ⟨m, hm⟩ := hPT t t0 t1
    have F : ∀ a k, ¬ (194 ≤ a ∧ a ≤ 199) → ¬ (a = 193 ∧ k = x) → uc a k = vc a k := fun a k h h2 => (hf a k (by omega) (by omega)).trans (c1f a k h2)
    have bt := TP_BT hT t0 t1
    obtain ⟨q1, q2, -⟩ := bt.2.2.2 0 (by decide) (by have := bt.1; omega)
    rw [Int.add_zero] at q1 q2
    refine ⟨m, hm, ⟨(F _ _ (by omega) (by omega)).trans hm.1.1.1, fun i j _ _ _ => F _ _ (by omega) (by omega), fun j j0 j1 => ⟨F _ _ (by omega) (by omega), F _ _ (by omega) (by omega)⟩⟩, (F _ _ (by omega) (by omega)).trans hT.1, (F _ _ (by omega) (by omega)).trans hm.2.2.2.2.2.2.1.2.2, (F _ _ (by omega) (by omega)).trans q1, q2, ?_⟩
    rw [F _ _ (by omega) (by omega), hC.2.2.2 _ (by omega) (by omega)]
    unfold pm_
    rw [if_pos (by omega)]
  by_cases four : g 11 (39 + x) = 4
  · -- no unit more
    have y4 : y = 4 := by
      rw [← hy, four]
      decide
    have U1 : ∀ k, 0 ≤ k → k < 4 → c1 193 k = g 11 (39 + k) := fun k k0 k1 => by
      by_cases c : k = x
      · rw [c, c1v, y4, four]
      · rw [c1f _ _ (by omega)]; exact hU k k0 k1
    obtain ⟨uc, e, -, h1⟩ := lp_s (σ := V_) (F := fun n t uc => fX4_savedBy_27 n 189 x 140 0 (g 11 (39 + x)) t uc) (K := fun uc => some (0, up_ uc 193 x (g 11 (39 + x)))) (e := vr 814 52) (I := fun t uc => 0 ≤ t ∧ Us_ c1 uc) (fun n t uc hI ht => by
      obtain ⟨t0, hf⟩ := hI
      obtain ⟨m, hm, hS, z0, z9, z1, zb, z3⟩ := body t t0 ht uc hf
      obtain ⟨wc, w1, w2⟩ := same_T hw hg ⟨t0, by omega⟩ hm hL' hD (fun k k0 k1 => (hf _ _ (by omega) (by omega)).trans (U1 k k0 k1)) hS
      have z10 : vc (200 + 75 * t) 9 = vr 858 (34 * t + (m - 1)) + 1 := hm.2.2.2.2.2.2.1.2.2
      rw [z10] at w1
      refine ⟨wc, ?_, by omega, Us_tr hf w2⟩
      rw [csaved_step n ⟨t0, by omega⟩ z0 ht w1 w2 (by omega), z9, show vr 858 (34 * t + (m - 1)) + 1 - (vr 858 (34 * t + (m - 1)) + 1) = 0 by omega, wr_id (show -2147483648 ≤ (0 : Int) ∧ (0 : Int) < 2147483648 by decide), Int.zero_mul, wr_id (show -2147483648 ≤ (0 : Int) ∧ (0 : Int) < 2147483648 by decide), Int.add_zero, wr_id (show -2147483648 ≤ (0 : Int) ∧ (0 : Int) < 2147483648 by decide)]) (fun n uc hI => by
      obtain ⟨t0, hf⟩ := hI
      have z0 : uc 189 0 = vr 814 52 := (hf _ _ (by decide) (by decide)).trans ((c1f _ _ (by omega)).trans hT.1)
      rw [fX4_savedBy_27, z0, if_pos (Int.le_refl _), ck_t hx]
      simp only [Int.reduceAdd]
      rw [lt_d]) (vr 814 52).toNat fu_ 0 c1 ⟨by decide, fun _ _ _ _ => rfl⟩ (by omega) (by unfold fu_; omega)
    refine ⟨0, _, e, fun a k q q2 => ?_, Or.inl ⟨four, rfl⟩⟩
    by_cases c : a = 193 ∧ k = x
    · rw [up_s c, c.1, c.2, e193]
    · rw [up_n c, h1 a k q q2, c1f a k c]
  · -- one more
    have y4 : y = g 11 (39 + x) + 1 := by
      rw [← hy]
      unfold mn_
      split <;> omega
    have hs := hD.1
    have e838 : vr 838 (39 + x) = g 11 (39 + x) := hD.2.2.2.2.2 _ (by omega) (by omega)
    rw [e838, wr_id (show -2147483648 ≤ g 11 (39 + x) + 1 ∧ g 11 (39 + x) + 1 < 2147483648 by omega)]
    have v1f : ∀ a k, ¬ (a = 838 ∧ k = 39 + x) → ¬ (a = 814 ∧ k = 69) → up_ (up_ vr 838 (39 + x) (g 11 (39 + x) + 1)) 814 69 0 a k = vr a k := fun a k h h2 => by rw [up_n h2, up_n h]
    have v1v : up_ (up_ vr 838 (39 + x) (g 11 (39 + x) + 1)) 814 69 0 838 (39 + x) = g 11 (39 + x) + 1 := by rw [up_n (by omega), up_s ⟨rfl, rfl⟩]
    generalize up_ (up_ vr 838 (39 + x) (g 11 (39 + x) + 1)) 814 69 0 = v1 at v1f v1v ⊢
    have G : ∃ g' : V_, (∀ a k, a ≠ 11 → g' a k = g a k) ∧ (∀ k, k ≠ 39 + x → g' 11 k = g 11 k) ∧ g' 11 (39 + x) = g 11 (39 + x) + 1 := ⟨up_ g 11 (39 + x) (g 11 (39 + x) + 1), fun a k h => up_n (by omega), fun k h => up_n (by omega), up_s ⟨rfl, rfl⟩⟩
    obtain ⟨g', G1, G2, G3⟩ := G
    have hw' : WF_ g' := by
      have e : ∀ a, a ≠ 11 → g' a = g a := fun a h => funext fun k => G1 a k h
      unfold WF_
      rw [e 0 (by decide), e 1 (by decide), e 2 (by decide), e 3 (by decide), e 4 (by decide), e 5 (by decide), e 6 (by decide), e 7 (by decide), e 8 (by decide), e 9 (by decide), e 10 (by decide)]
      exact hw
    have hg' : RG_ g' := by
      refine ⟨by rw [G2 _ (by omega)]; exact hg.1, fun k k0 k1 => by rw [G2 _ (by omega)]; exact hg.2.1 k k0 k1, fun k k0 k1 => by rw [G2 _ (by omega)]; exact hg.2.2.1 k k0 k1, fun k k0 k1 => ?_, fun k k0 k1 => by rw [G2 _ (by omega)]; exact hg.2.2.2.2 k k0 k1⟩
      by_cases c : k = 39 + x
      · rw [c, G3]; omega
      · rw [G2 _ c]; exact hg.2.2.2.1 k k0 k1
    have hD' : ∀ ur, Uz_ v1 ur → D_ ur g' := fun ur hf => by
      have F : ∀ a k, a ≠ 838 → ¬ (843 ≤ a) → ¬ (a = 814 ∧ k = 69) → ur a k = vr a k := fun a k h h2 h3 => (hf a k (by omega) (by omega) (by omega) (by omega)).trans (v1f a k (by omega) h3)
      have d : D_ ur (fun a k => if a = 11 then ur 838 k else g a k) := by
        obtain ⟨d1, d2, d3, d4, d5, -⟩ := hD
        have e18 : ur 814 18 = vr 814 18 := F _ _ (by omega) (by omega) (by omega)
        unfold D_
        rw [e18]
        refine ⟨d1, ?_, fun k k0 k1 => ?_, fun k k0 k1 => ?_, fun k k0 k1 => ?_, fun k _ _ => ?_⟩
        · rw [F _ _ (by omega) (by omega) (by omega)]; exact d2
        · rw [F _ _ (by omega) (by omega) (by omega), F 832 _ (by omega) (by omega) (by omega), F 833 _ (by omega) (by omega) (by omega), F 834 _ (by omega) (by omega) (by omega)]; exact d3 k k0 k1
        · rw [F 827 _ (by omega) (by omega) (by omega), F 828 _ (by omega) (by omega) (by omega), F 829 _ (by omega) (by omega) (by omega), F 830 _ (by omega) (by omega) (by omega), F 831 _ (by omega) (by omega) (by omega)]; exact d4 k k0 k1
        · rw [F 835 _ (by omega) (by omega) (by omega)]; exact d5 k k0 k1
        · exact (if_pos rfl).symm
      obtain ⟨d1, d2, d3, d4, d5, -⟩ := d
      refine ⟨d1, ?_, fun k k0 k1 => ?_, fun k k0 k1 => ?_, fun k k0 k1 => ?_, fun k k0 k1 => ?_⟩
      · rw [d2, G1 _ _ (by omega)]; rfl
      · rw [G1 _ _ (by omega), G1 _ _ (by omega), G1 _ _ (by omega), G1 _ _ (by omega)]; exact d3 k k0 k1
      · rw [G1 _ _ (by omega), G1 _ _ (by omega), G1 _ _ (by omega), G1 _ _ (by omega), G1 _ _ (by omega)]; exact d4 k k0 k1
      · rw [G1 _ _ (by omega)]; exact d5 k k0 k1
      · rw [hf _ _ (by omega) (by omega) (by omega) (by omega)]
        by_cases c : k = 39 + x
        · rw [c, v1v, G3]
        · rw [v1f _ _ (by omega) (by omega), G2 _ c]
          exact hD.2.2.2.2.2 k k0 k1
    have U1 : ∀ k, 0 ≤ k → k < 4 → c1 193 k = g' 11 (39 + k) := fun k k0 k1 => by
      by_cases c : k = x
      · rw [c, c1v, y4, G3]
      · rw [c1f _ _ (by omega), G2 _ (by omega)]; exact hU k k0 k1
    have e52 : ∀ ur, Uz_ v1 ur → ur 814 52 = vr 814 52 := fun ur hf => (hf _ _ (by decide) (by decide) (by decide) (by decide)).trans (v1f _ _ (by omega) (by omega))
    obtain ⟨⟨s, uc, ur⟩, e, -, h1, h2, -⟩ := lp_s (σ := Int × V_ × V_) (α := Option (Int × V_) × Option (Int × V_)) (F := fun n t s => (fX4_savedBy_27 n 189 x 140 s.1 (g 11 (39 + x)) t s.2.1, fX12_saved_52 n 814 s.1 t s.2.2)) (K := fun s => (some (s.1, up_ s.2.1 193 x (g 11 (39 + x))), some (s.1, s.2.2))) (e := vr 814 52) (I := fun t s => 0 ≤ t ∧ Us_ c1 s.2.1 ∧ Uz_ v1 s.2.2 ∧ ∀ k, 34 * t ≤ k → s.2.2 858 k = vr 858 k) (fun n t s hI ht => by
      obtain ⟨s, uc, ur⟩ := s
      dsimp only at hI ⊢
      obtain ⟨t0, hf, hf2, h58⟩ := hI
      obtain ⟨m, hm, hS, z0, z9, z1, zb, z3⟩ := body t t0 ht uc hf
      have hmm := hm.1.1.2.2
      have F2 : ∀ a k, 843 ≤ a → a ≤ 857 → ur a k = vr a k := fun a k q q2 => (hf2 a k (by omega) (by omega) (by omega) (by omega)).trans (v1f a k (by omega) (by omega))
      obtain ⟨r1, r2, wc, q1, q2, q3, q4, q5, q6, q7⟩ := again_T (g' := g') (ur := ur) hw' hg' G1 (fun k k0 => G2 k (by omega)) ⟨t0, by omega⟩ hm hL' (hD' ur hf2) (fun k k0 k1 => (hf _ _ (by omega) (by omega)).trans (U1 k k0 k1)) hS F2
      have c858 := (hm.2.2.2.2.2.2.1.1 (m - 1) (by omega) (by omega)).2
      have l1 : fX12_lengthOf 814 t ur = some (vr 858 (34 * t + (m - 1)) + 1, ur) := by
        rw [length_e ⟨t0, by omega⟩ hmm ((F2 _ _ (by decide) (by decide)).trans hm.1.1.2.1) (by rw [h58 _ (by omega)]; exact c858.2 |> fun h => ⟨c858.1, h⟩), h58 _ (by omega)]
      have l2 : fX12_lengthOf 814 t r2 = some (r2 858 (34 * t + (m - 1)) + 1, r2) := length_e ⟨t0, by omega⟩ hmm ((q6 _ _ (by decide) (by decide) (by decide) (by decide)).trans ((F2 _ _ (by decide) (by decide)).trans hm.1.1.2.1)) q4
      have f46 : r2 846 (4 * t) = vr 846 (4 * t) := (q6 _ _ (by decide) (by decide) (by decide) (by decide)).trans (F2 _ _ (by decide) (by decide))
      have f38 : r2 838 (14 + vr 846 (4 * t)) = g 11 (14 + vr 846 (4 * t)) := by
        rw [q6 _ _ (by decide) (by decide) (by decide) (by decide), hf2 _ _ (by decide) (by decide) (by decide) (by decide), v1f _ _ (by omega) (by omega)]
        exact hD.2.2.2.2.2 _ (by omega) (by omega)
      refine ⟨(wr_ (s + wr_ (wr_ (vr 858 (34 * t + (m - 1)) + 1 - (r2 858 (34 * t + (m - 1)) + 1)) * g 11 (14 + vr 846 (4 * t)))), wc, r2), ?_, by omega, Us_tr hf q5, Uz_tr hf2 q6, fun k hk => ?_⟩
      · rw [Prod.mk.injEq]
        constructor
        · rw [csaved_step n ⟨t0, by omega⟩ z0 ht q3 q5 (by omega), z9, z1, z3]
        · rw [fX12_saved_52, e52 ur hf2, if_neg (by omega), l1, bd_s]
          dsimp only
          rw [q1, bd_s]
          dsimp only
          rw [q2, bd_s]
          dsimp only
          rw [l2, bd_s, wr_id (show -2147483648 ≤ 4 * t ∧ 4 * t < 2147483648 by omega), ck_t (by omega)]
          simp only [Int.reduceAdd]
          unfold fX12_begunOf
          rw [f46, wr_id (show -2147483648 ≤ 14 + vr 846 (4 * t) ∧ 14 + vr 846 (4 * t) < 2147483648 by omega), ck_t (by omega), bd_s, lt_d, lt_d, wr_id (show -2147483648 ≤ t + 1 ∧ t + 1 < 2147483648 by omega)]
          simp only [Int.reduceAdd]
          rw [f38]
      · exact (q7 k (by omega)).trans (h58 k (by omega))) (fun n s hI => by
      obtain ⟨s, uc, ur⟩ := s
      dsimp only at hI ⊢
      obtain ⟨t0, hf, hf2, h58⟩ := hI
      have z0 : uc 189 0 = vr 814 52 := (hf _ _ (by decide) (by decide)).trans ((c1f _ _ (by omega)).trans hT.1)
      rw [fX4_savedBy_27, z0, if_pos (Int.le_refl _), ck_t hx, fX12_saved_52, e52 ur hf2, if_pos (Int.le_refl _)]
      simp only [Int.reduceAdd]
      rw [lt_d]) (vr 814 52).toNat fu_ 0 (0, c1, v1) ⟨by decide, fun _ _ _ _ => rfl, fun _ _ _ _ _ _ => rfl, fun k _ => v1f _ _ (by omega) (by omega)⟩ (by omega) (by unfold fu_; omega)
    dsimp only at e h1 h2
    obtain ⟨e1, e2⟩ := Prod.mk.inj e
    refine ⟨s, _, e1, fun a k q q2 => ?_, Or.inr ⟨four, ur, e2, h2⟩⟩
    by_cases c : a = 193 ∧ k = x
    · rw [up_s c, c.1, c.2, e193]
    · rw [up_n c, h1 a k q q2, c1f a k c]
