/-! layer 2: joined blocks, in both -/
def JB_ (g : V_) (x : Int) : Prop := (0 ≤ x ∧ x < 256) ∧ ∀ q, g 0 0 ≤ q → q < 8 → bt_ x q = false
theorem JB_s {g : V_} {x b : Int} (hn : 0 ≤ g 0 0 ∧ g 0 0 ≤ 8) (h : JB_ g x) (hb : 0 ≤ b ∧ b < g 0 0) : JB_ g (bO_ x (sL_ 1 b)) := by
  obtain ⟨s1, s2⟩ := sL_e (r := b) (by omega)
  obtain ⟨o1, o2⟩ := bO_e h.1 s1
  refine ⟨o1, fun q q0 q1 => ?_⟩
  rw [o2, h.2 q q0 q1, s2 q (by omega) q1]
  simp only [Bool.false_or, decide_eq_false_iff_not]
  omega
theorem join_in {g vc vr w : V_} {p s b0 : Int} (hw : WF_ g) (hC : C_ vc p g) (hD : D_ vr g) (hT : TP_ g vc vr) (hs : 0 ≤ s ∧ s < vr 814 52) (F0 : ∀ a k, ¬ (a = 189 ∧ k = 1) → w a k = vc a k) (hb0 : w 189 1 = b0) (hJ : JB_ g b0) (k7 : Int → Int → Int → V_ → Option (Int × V_)) (k4 : Int → Int → Int → V_ → Option (Int × V_)) : ∃ w' b', fX4_findJoined_25 k7 fu_ 189 p s (200 + 75 * s) 1 w = k7 189 p (s + 1) w' ∧ fX12_joinedBits_14 k4 fu_ 814 b0 s 1 vr = k4 814 b' (s + 1) vr ∧ (∀ a k, ¬ (a = 189 ∧ k = 1) → w' a k = vc a k) ∧ w' 189 1 = b' ∧ JB_ g b' := by
  have hn := hw.1
  obtain ⟨t1, t2, t3, t4, t5⟩ := hT
  obtain ⟨m1, m2, m3⟩ := t4 s hs.1 hs.2
  obtain ⟨⟨w', b'⟩, e, -, h1, h2, hJ'⟩ := lp_s (σ := V_ × Int) (α := Option (Int × V_) × Option (Int × V_)) (F := fun n i s' => (fX4_findJoined_25 k7 n 189 p s (200 + 75 * s) i s'.1, fX12_joinedBits_14 k4 n 814 s'.2 s i vr)) (K := fun s' => (k7 189 p (s + 1) s'.1, k4 814 s'.2 (s + 1) vr)) (e := vr 847 s) (I := fun i s' => 1 ≤ i ∧ (∀ a k, ¬ (a = 189 ∧ k = 1) → s'.1 a k = vc a k) ∧ s'.1 189 1 = s'.2 ∧ JB_ g s'.2) (fun n i ⟨u, bb⟩ h hi => by
    obtain ⟨i1, h1, h2, hJ⟩ := h
    dsimp only at h1 h2 hJ ⊢
    obtain ⟨q1, q2, q3, q4, q5, q6, q7⟩ := m3 i (by omega) hi
    obtain ⟨r1, -⟩ := m3 (i - 1) (by omega) (by omega)
    have hCu : C_ u p g := C_fr hw hC (fun a k a0 a1 => h1 a k (by omega)) (fun k _ _ => h1 _ k (by omega))
    have eb : u (201 + 75 * s) i = vr 846 (4 * s + i) := (h1 _ _ (by omega)).trans q1
    have eq : u (201 + 75 * s) (i - 1) = vr 846 (4 * s + i - 1) := by rw [h1 _ _ (by omega), r1, show 4 * s + (i - 1) = 4 * s + i - 1 by omega]
    have eM : u (200 + 75 * s) 1 = vr 847 s := (h1 _ _ (by omega)).trans m2
    have hj : wr_ (wr_ (4 * s) + i) = 4 * s + i := by rw [wr_id (show -2147483648 ≤ 4 * s ∧ 4 * s < 2147483648 by omega), wr_id (show -2147483648 ≤ 4 * s + i ∧ 4 * s + i < 2147483648 by omega)]
    have hj2 : wr_ (4 * s + i - 1) = 4 * s + i - 1 := wr_id (by omega)
    have hi1 : wr_ (i - 1) = i - 1 := wr_id (by omega)
    have hi2 : wr_ (i + 1) = i + 1 := wr_id (by omega)
    obtain ⟨r, o1, o2⟩ := oth_e (q := vr 846 (4 * s + i - 1)) hw hD ⟨q2, by omega⟩ ⟨hs.1, by omega⟩ ⟨i1, by omega⟩ q4 q5 rfl
    rw [fX4_findJoined_25, if_neg (show ¬ u (200 + 75 * s) 1 ≤ i by omega), hi1, ck_t (by omega), lt_d, ck_t (by omega), lt_d, show 200 + 75 * s + 1 = 201 + 75 * s by omega, eb, eq, fX12_joinedBits_14, ck_t (by omega)]
    simp only [Int.reduceAdd]
    rw [if_neg (show ¬ vr 847 s ≤ i by omega), hj, ck_t (by omega), lt_d, o1, bd_s]
    try dsimp only
    have adv : ∃ t : V_ × Int, (fX4_findJoined_79 k7 (fX4_findJoined_25 k7 n) 189 p s (200 + 75 * s) i (vr 846 (4 * s + i)) u, fX12_joinedBits_65 k4 (fX12_joinedBits_14 k4 n) 814 bb s i (vr 846 (4 * s + i)) vr) = (fX4_findJoined_25 k7 n 189 p s (200 + 75 * s) (i + 1) t.1, fX12_joinedBits_14 k4 n 814 t.2 s (i + 1) vr) ∧ 1 ≤ i + 1 ∧ (∀ a k, ¬ (a = 189 ∧ k = 1) → t.1 a k = vc a k) ∧ t.1 189 1 = t.2 ∧ JB_ g t.2 := by
      unfold fX4_findJoined_79 fX12_joinedBits_65
      rw [lt_d, lt_d, lt_d, lt_d, hi2, h2]
      exact ⟨(up_ u 189 1 (bO_ bb (sL_ 1 (vr 846 (4 * s + i)))), bO_ bb (sL_ 1 (vr 846 (4 * s + i)))), rfl, by omega, fun a k q => (up_n (v := u) q).trans (h1 a k q), by dsimp only; exact up_s ⟨rfl, rfl⟩, JB_s hn hJ ⟨q2, q3⟩⟩
    have skp : ∃ t : V_ × Int, (fX4_findJoined_25 k7 n 189 p s (200 + 75 * s) (i + 1) u, fX12_joinedBits_14 k4 n 814 bb s (i + 1) vr) = (fX4_findJoined_25 k7 n 189 p s (200 + 75 * s) (i + 1) t.1, fX12_joinedBits_14 k4 n 814 t.2 s (i + 1) vr) ∧ 1 ≤ i + 1 ∧ (∀ a k, ¬ (a = 189 ∧ k = 1) → t.1 a k = vc a k) ∧ t.1 189 1 = t.2 ∧ JB_ g t.2 := ⟨(u, bb), rfl, by omega, h1, h2, hJ⟩
    have jn : fX4_joins 189 (vr 846 (4 * s + i - 1)) u = some (if bA_ (sR_ bb (vr 846 (4 * s + i - 1))) 1 = 1 then 1 else 0, u) := by
      unfold fX4_joins
      rw [h2]
      by_cases c : bA_ (sR_ bb (vr 846 (4 * s + i - 1))) 1 = 1
      · rw [if_pos c, if_pos c]
      · rw [if_neg c, if_neg c]
    by_cases c0 : vr 846 (4 * s + i) = 0
    · rcases o2 with ⟨x, y⟩ | ⟨x, y⟩
      · rw [if_pos c0, if_neg (show ¬ r = 0 by omega)]
        exact adv
      · exact absurd (Or.inl c0) y
    · rw [if_neg c0, jn, bd_s]
      try dsimp only
      by_cases c1 : bA_ (sR_ bb (vr 846 (4 * s + i - 1))) 1 = 1
      · rw [if_pos c1, if_neg n10_]
        rcases o2 with ⟨x, y⟩ | ⟨x, y⟩
        · rw [if_neg (show ¬ r = 0 by omega)]
          exact adv
        · rw [if_pos x, ck_t (by omega), hj2, if_pos c1]
          exact adv
      · rw [if_neg c1, if_pos (show (0 : Int) = 0 from rfl)]
        obtain ⟨r', x1, x2⟩ := else_c (b := vr 846 (4 * s + i)) (q := vr 846 (4 * s + i - 1)) hw hCu
        rw [x1, bd_s]
        try dsimp only
        rcases x2 with ⟨z, z2⟩ | ⟨z, z2⟩
        · rw [if_neg (show ¬ r' = 0 by omega)]
          rcases o2 with ⟨x, y⟩ | ⟨x, y⟩
          · rw [if_neg (show ¬ r = 0 by omega)]
            exact adv
          · exact absurd (Or.inr z2) y
        · rw [if_pos z, lt_d, hi2]
          rcases o2 with ⟨x, y⟩ | ⟨x, y⟩
          · exact absurd y (fun y => y.elim c0 z2)
          · rw [if_pos x, ck_t (by omega), hj2, if_neg c1, lt_d]
            exact skp) (fun n ⟨u, bb⟩ h => by
    obtain ⟨i1, h1, h2, -⟩ := h
    dsimp only at h1 h2 ⊢
    have eM : u (200 + 75 * s) 1 = vr 847 s := (h1 _ _ (by omega)).trans m2
    rw [fX4_findJoined_25, if_pos (show u (200 + 75 * s) 1 ≤ vr 847 s by omega), lt_d, fX12_joinedBits_14, ck_t (by omega)]
    simp only [Int.reduceAdd]
    rw [if_pos (Int.le_refl _), lt_d, wr_id (show -2147483648 ≤ s + 1 ∧ s + 1 < 2147483648 by omega)]) (vr 847 s - 1).toNat fu_ 1 (w, b0) ⟨by decide, F0, hb0, hJ⟩ (by omega) (by unfold fu_; omega)
  obtain ⟨e1, e2⟩ := Prod.mk.inj e
  exact ⟨w', b', e1, e2, h1, h2, hJ'⟩
theorem joined_T {g vc vr : V_} {p : Int} (hw : WF_ g) (hC : C_ vc p g) (hD : D_ vr g) (hT : TP_ g vc vr) : ∃ w, fX4_findJoined 189 p vc = some (0, w) ∧ (∀ a k, ¬ (a = 189 ∧ k = 1) → w a k = vc a k) ∧ fX12_joinedBits 814 vr = some (w 189 1, vr) ∧ JB_ g (w 189 1) := by
  have hT' := hT
  obtain ⟨t1, t2, -⟩ := hT'
  unfold fX4_findJoined fX12_joinedBits
  rw [lt_d]
  obtain ⟨⟨w, b⟩, e, -, h1, h2, hJ⟩ := lp_s (σ := V_ × Int) (α := Option (Int × V_) × Option (Int × V_)) (F := fun n s s' => (fX4_findJoined_7 n 189 p s s'.1, fX12_joinedBits_4 n 814 s'.2 s vr)) (K := fun s' => (some (0, s'.1), some (s'.2, vr))) (e := vr 814 52) (I := fun s s' => 0 ≤ s ∧ (∀ a k, ¬ (a = 189 ∧ k = 1) → s'.1 a k = vc a k) ∧ s'.1 189 1 = s'.2 ∧ JB_ g s'.2) (fun n s ⟨u, bb⟩ h hs => by
    obtain ⟨s0, h1, h2, hJ⟩ := h
    dsimp only at h1 h2 hJ ⊢
    obtain ⟨w', b', e1, e2, h3, h4, h5⟩ := join_in hw hC hD hT ⟨s0, hs⟩ h1 h2 hJ (fX4_findJoined_7 n) (fX12_joinedBits_4 n)
    have eN : u 189 0 = vr 814 52 := (h1 _ _ (by omega)).trans t1
    rw [fX4_findJoined_7, if_neg (show ¬ u 189 0 ≤ s by omega), ck_t (by omega), lt_d, show (189 : Int) + 1 + (10 + 75 * s) = 200 + 75 * s by omega, e1, fX12_joinedBits_4, if_neg (show ¬ vr 814 52 ≤ s by omega), e2]
    exact ⟨(w', b'), rfl, by omega, h3, h4, h5⟩) (fun n ⟨u, bb⟩ h => by
    obtain ⟨i1, h1, h2, -⟩ := h
    dsimp only at h1 h2 ⊢
    have eN : u 189 0 = vr 814 52 := (h1 _ _ (by omega)).trans t1
    rw [fX4_findJoined_7, if_pos (show u 189 0 ≤ vr 814 52 by omega), fX12_joinedBits_4, if_pos (Int.le_refl _)]) (vr 814 52).toNat fu_ 0 (up_ vc 189 1 0, 0) ⟨by decide, fun a k q => by dsimp only; exact up_n q, by dsimp only; exact up_s ⟨rfl, rfl⟩, ⟨⟨by dsimp only; omega, by dsimp only; omega⟩, fun q q0 q1 => by dsimp only; unfold bt_; rw [show (0 : Int).toNat = 0 from rfl]; exact Nat.zero_testBit _⟩⟩ (by omega) (by unfold fu_; omega)
  obtain ⟨e1, e2⟩ := Prod.mk.inj e
  dsimp only at h1 h2
  dsimp only at hJ
  rw [← h2] at e2 hJ
  exact ⟨w, e1, h1, e2, hJ⟩
