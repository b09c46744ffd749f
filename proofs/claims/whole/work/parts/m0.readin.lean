/-! layer 2: a text read, in both: all but what comes of it -/
def lq4_ (t : Int) : Int := if t = 1 then 3 else if t = 2 then 2 else 1
section READ0
variable {B : Int → Int} {M p i n : Int} {v0 w0 v w v' w' : V_}
theorem read10_T (h4 : w 814 4 = n) (hn : 0 ≤ n ∧ n ≤ 2000) (hB : ∀ k, 0 ≤ k → k < n → w 815 k = B k ∧ -128 ≤ B k ∧ B k < 128) : ∃ u, fX12_read_10 fu_ 814 0 w = (lt_ (up_ u 814 2 0) fun v3 =>
      bd_ (fX12_cut 814 v3) fun q4 =>
      lt_ (up_ q4.2 814 11 0) fun v5 =>
      lt_ (up_ v5 814 13 0) fun v6 =>
      lt_ (up_ v6 814 15 0) fun v7 =>
      lt_ (up_ v7 814 19 (wr_ (1 - (v7 814 18)))) fun v8 =>
      lt_ (up_ v8 814 20 0) fun v9 =>
      bd_ (fX12_plain 814 (v9 814 19) v9) fun q10 =>
      fX12_read_83 fu_ 814 q10.2) ∧ (∀ a k, a ≠ 816 → u a k = w a k) ∧ ∀ k, 0 ≤ k → k < n → u 816 k = B k := by
  obtain ⟨u, e, -, e2, e3⟩ := lp_s (σ := V_) (α := Option (Int × V_)) (F := fun N k s => fX12_read_10 N 814 k s) (K := fun u => (lt_ (up_ u 814 2 0) fun v3 =>
      bd_ (fX12_cut 814 v3) fun q4 =>
      lt_ (up_ q4.2 814 11 0) fun v5 =>
      lt_ (up_ v5 814 13 0) fun v6 =>
      lt_ (up_ v6 814 15 0) fun v7 =>
      lt_ (up_ v7 814 19 (wr_ (1 - (v7 814 18)))) fun v8 =>
      lt_ (up_ v8 814 20 0) fun v9 =>
      bd_ (fX12_plain 814 (v9 814 19) v9) fun q10 =>
      fX12_read_83 fu_ 814 q10.2)) (I := fun k s => 0 ≤ k ∧ (∀ a j, a ≠ 816 → s a j = w a j) ∧ ∀ j, 0 ≤ j → j < k → s 816 j = B j) (e := n) (fun N k s hI kn => by
    obtain ⟨k0, f, g⟩ := hI
    refine ⟨up_ s 816 k (B k), ?_, by omega, fun a j q => (up_n (by omega)).trans (f a j q), fun j j0 j1 => ?_⟩
    · obtain ⟨b1, b2, b3⟩ := hB k k0 kn
      have e8 : w8_ (s 815 k) = B k := by
        rw [f _ _ (by decide), b1]
        unfold w8_
        omega
      try dsimp only
      rw [fX12_read_10, f 814 4 (by decide), h4, if_neg (by omega), ck_t (by omega), ck_t (by omega), show (814 : Int) + 2 = 816 from rfl, show (814 : Int) + 1 = 815 from rfl, e8, lt_d, wr_id (by omega), lt_d]
    · by_cases c : j = k
      · rw [c, up_s ⟨rfl, rfl⟩]
      · rw [up_n (by omega)]
        exact g j j0 (by omega)) (fun N s hI => by
    obtain ⟨-, f, -⟩ := hI
    try dsimp only
    rw [fX12_read_10, f 814 4 (by decide), h4, if_pos (Int.le_refl _)]) n.toNat fu_ 0 w ⟨Int.le_refl _, fun _ _ _ => rfl, fun j j0 j1 => by omega⟩ (by omega) (by unfold fu_; omega)
  exact ⟨u, e, e2, e3⟩
theorem plain_T (hi : i = 0 ∨ i = 1) : ∃ u, fX12_plain 814 i w = some (0, u) ∧ (∀ a k, ¬ (a = 823 ∧ k = i) → ¬ ((a = 824 ∨ a = 825) ∧ 4 * i ≤ k ∧ k < 4 * i + 4) → u a k = w a k) ∧ u 823 i = 0 ∧ ∀ t, 0 ≤ t → t < 4 → u 824 (4 * i + t) = 1 ∧ u 825 (4 * i + t) = lq4_ t := by
  unfold fX12_plain
  rw [ck_t (by omega), show (814 : Int) + 9 = 823 from rfl, lt_d]
  obtain ⟨u, e, -, e2, e3, e4⟩ := lp_s (σ := V_) (α := Option (Int × V_)) (F := fun N t s => fX12_plain_9 N 814 i t s) (K := fun u => some (0, u)) (I := fun t s => 0 ≤ t ∧ (∀ a k, ¬ (a = 823 ∧ k = i) → ¬ ((a = 824 ∨ a = 825) ∧ 4 * i ≤ k ∧ k < 4 * i + 4) → s a k = w a k) ∧ s 823 i = 0 ∧ ∀ j, 0 ≤ j → j < t → s 824 (4 * i + j) = 1 ∧ s 825 (4 * i + j) = lq4_ j) (e := 4) (fun N t s hI t4 => by
    obtain ⟨t0, f, f2, g⟩ := hI
    refine ⟨up_ (up_ s 824 (4 * i + t) 1) 825 (4 * i + t) (lq4_ t), ?_, by omega, fun a k q q2 => ?_, ?_, fun j j0 j1 => ?_⟩
    · try dsimp only
      rw [fX12_plain_9, if_neg (by omega), wr_id (x := 4 * i) (by omega), wr_id (x := 4 * i + t) (by omega), ck_t (by omega), show (814 : Int) + 10 = 824 from rfl, show (814 : Int) + 11 = 825 from rfl, lt_d, wr_id (x := t + 1) (by omega)]
      unfold lq4_
      by_cases c1 : t = 1
      · rw [if_pos c1, if_pos c1, ck_t (by omega), lt_d, lt_d]
      · rw [if_neg c1, if_neg c1]
        by_cases c2 : t = 2
        · rw [if_pos c2, if_pos c2, ck_t (by omega), lt_d, lt_d]
        · rw [if_neg c2, if_neg c2, ck_t (by omega), lt_d, lt_d]
    · rw [up_n (by omega), up_n (by omega)]; exact f a k q q2
    · rw [up_n (by omega), up_n (by omega)]; exact f2
    · by_cases c : j = t
      · rw [c, up_n (by omega), up_s ⟨rfl, rfl⟩, up_s ⟨rfl, rfl⟩]; exact ⟨rfl, rfl⟩
      · rw [up_n (by omega), up_n (by omega), up_n (by omega), up_n (by omega)]; exact g j j0 (by omega)) (fun N s hI => by
    try dsimp only
    rw [fX12_plain_9, if_pos (by decide)]) 4 fu_ 0 (up_ w 823 i 0) ⟨by decide, fun a k q _ => up_n q, up_s ⟨rfl, rfl⟩, fun j j0 j1 => by omega⟩ (by decide) (by unfold fu_; omega)
  exact ⟨u, e, e2, e3, e4⟩
theorem anew_e (hp : p = 12 ∨ p = 76) : ∃ u, fX5_startAnew p v = some (0, u) ∧ (∀ a k, ¬ (a = p ∧ k = 0) → ¬ ((a = p + 6 ∨ a = p + 7) ∧ 0 ≤ k ∧ k < 4) → u a k = v a k) ∧ u p 0 = 0 ∧ ∀ t, 0 ≤ t → t < 4 → u (p + 6) t = 1 ∧ u (p + 7) t = lq4_ t := by
  refine ⟨_, rfl, fun a k q q2 => ?_, ?_, fun t t0 t1 => ⟨?_, ?_⟩⟩
  · rw [up_n (by omega), up_n (by omega), up_n (by omega), up_n (by omega)]
    unfold fl_
    rw [if_neg (by omega), up_n q]
  · rw [up_n (by omega), up_n (by omega), up_n (by omega), up_n (by omega)]
    unfold fl_
    rw [if_neg (by omega), up_s ⟨rfl, rfl⟩]
  · rw [up_n (by omega), up_n (by omega), up_n (by omega), up_n (by omega)]
    unfold fl_
    rw [if_pos (by omega)]
  · unfold lq4_
    rcases (by omega : t = 0 ∨ t = 1 ∨ t = 2 ∨ t = 3) with rfl | rfl | rfl | rfl
    · rw [up_n (by omega), up_n (by omega), up_n (by omega), up_s ⟨rfl, rfl⟩]; rfl
    · rw [up_n (by omega), up_n (by omega), up_s ⟨rfl, rfl⟩]; rfl
    · rw [up_n (by omega), up_s ⟨rfl, rfl⟩]; rfl
    · rw [up_s ⟨rfl, rfl⟩]; rfl
/-- what reading writes before anything is told: the class, the reference -/
def FI1_ (p : Int) (vc v0 : V_) : Prop := ∀ a k, a ≠ 3 → ¬ (6 ≤ a ∧ a ≤ 8) → ¬ (a = 4 ∧ k = 4) → a ≠ 10 → ¬ (p ≤ a ∧ a < p + 64) → v0 a k = vc a k
def FI2_ (i : Int) (vr w0 : V_) : Prop := ∀ a k, ¬ (a = 814 ∧ (k = 2 ∨ k = 4 ∨ k = 10 ∨ k = 11 ∨ k = 13 ∨ k = 15 ∨ k = 19 ∨ k = 20)) → ¬ (816 ≤ a ∧ a ≤ 820) → ¬ hf_ i a k → w0 a k = vr a k
theorem parse_T {vc vr : V_} (hT : RT_ vc vr) (hN : RN_ vc vr) (hp : p = 12 ∨ p = 76) (hi : i = 0 ∨ i = 1) (hi2 : vr 814 18 = 1 - i) : ∃ M v0 w0 v' w', fX3_parse 3 2 (vc 1 1) p vc = fX3_parse_117 3 v' ∧ fX12_read 814 vr = fX12_read_105 814 w' ∧ EV_ M p i v0 w0 ∧ J_ M p i v0 w0 v' w' ∧ (v' 3 6 = 0 → ∃ n, TP1_ M p i n v0 w0 v' w') ∧ FI1_ p vc v0 ∧ FI2_ i vr w0 ∧ w0 814 2 = 0 := by
  obtain ⟨hn, h2, hB⟩ := hT
  -- the class up to its tokens
  obtain ⟨u1, a1, f1, g1, g2⟩ := anew_e (v := up_ vc 3 4 p) hp
  have hP : p = PA_ ∨ p = PB_ := hp
  have C : fX3_parse 3 2 (vc 1 1) p vc = bd_ (fX9_scan_13 fu_ 4 2 (vc 1 1) 0 1 0 (up_ (up_ (up_ (up_ (up_ (fl_ u1 10 16 0) 3 5 0) 3 6 0) 3 8 0) 3 9 (-1)) 4 4 0)) fun q12 => fX3_parse_52 fu_ 3 0 q12.2 := by
    unfold fX3_parse fX9_scan
    rw [lt_d, ck_t (by rw [up_s ⟨rfl, rfl⟩]; exact hP), up_s ⟨rfl, rfl⟩, a1, bd_s, lt_d, lt_d, lt_d, lt_d, lt_d, lt_d]
    rfl
  have vF : ∀ a k, a ≠ 3 → ¬ (a = 4 ∧ k = 4) → a ≠ 10 → ¬ (a = p ∧ k = 0) → ¬ ((a = p + 6 ∨ a = p + 7) ∧ 0 ≤ k ∧ k < 4) → up_ (up_ (up_ (up_ (up_ (fl_ u1 10 16 0) 3 5 0) 3 6 0) 3 8 0) 3 9 (-1)) 4 4 0 a k = vc a k := fun a k q q2 q3 q4 q5 => by
    rw [up_n q2, up_n (by omega), up_n (by omega), up_n (by omega), up_n (by omega)]
    unfold fl_
    rw [if_neg (by omega), f1 a k q4 q5, up_n (by omega)]
  have vU : ∀ a k, a ≠ 3 → ¬ (a = 4 ∧ k = 4) → a ≠ 10 → up_ (up_ (up_ (up_ (up_ (fl_ u1 10 16 0) 3 5 0) 3 6 0) 3 8 0) 3 9 (-1)) 4 4 0 a k = u1 a k := fun a k q q2 q3 => by
    rw [up_n q2, up_n (by omega), up_n (by omega), up_n (by omega), up_n (by omega)]
    unfold fl_
    rw [if_neg (by omega)]
  have v44 : up_ (up_ (up_ (up_ (up_ (fl_ u1 10 16 0) 3 5 0) 3 6 0) 3 8 0) 3 9 (-1)) 4 4 0 4 4 = 0 := up_s ⟨rfl, rfl⟩
  have v35 : up_ (up_ (up_ (up_ (up_ (fl_ u1 10 16 0) 3 5 0) 3 6 0) 3 8 0) 3 9 (-1)) 4 4 0 3 5 = 0 := by rw [up_n (by omega), up_n (by omega), up_n (by omega), up_n (by omega), up_s ⟨rfl, rfl⟩]
  have v36 : up_ (up_ (up_ (up_ (up_ (fl_ u1 10 16 0) 3 5 0) 3 6 0) 3 8 0) 3 9 (-1)) 4 4 0 3 6 = 0 := by rw [up_n (by omega), up_n (by omega), up_n (by omega), up_s ⟨rfl, rfl⟩]
  have v38 : up_ (up_ (up_ (up_ (up_ (fl_ u1 10 16 0) 3 5 0) 3 6 0) 3 8 0) 3 9 (-1)) 4 4 0 3 8 = 0 := by rw [up_n (by omega), up_n (by omega), up_s ⟨rfl, rfl⟩]
  have v39 : up_ (up_ (up_ (up_ (up_ (fl_ u1 10 16 0) 3 5 0) 3 6 0) 3 8 0) 3 9 (-1)) 4 4 0 3 9 = -1 := by rw [up_n (by omega), up_s ⟨rfl, rfl⟩]
  have v34 : up_ (up_ (up_ (up_ (up_ (fl_ u1 10 16 0) 3 5 0) 3 6 0) 3 8 0) 3 9 (-1)) 4 4 0 3 4 = p := by
    rw [up_n (by omega), up_n (by omega), up_n (by omega), up_n (by omega), up_n (by omega)]
    unfold fl_
    rw [if_neg (by omega), f1 _ _ (by omega) (by omega), up_s ⟨rfl, rfl⟩]
  have v10 : ∀ k, 0 ≤ k → k < 16 → up_ (up_ (up_ (up_ (up_ (fl_ u1 10 16 0) 3 5 0) 3 6 0) 3 8 0) 3 9 (-1)) 4 4 0 10 k = 0 := fun k k0 k1 => by
    rw [up_n (by omega), up_n (by omega), up_n (by omega), up_n (by omega), up_n (by omega)]
    unfold fl_
    rw [if_pos (by omega)]
  generalize up_ (up_ (up_ (up_ (up_ (fl_ u1 10 16 0) 3 5 0) 3 6 0) 3 8 0) 3 9 (-1)) 4 4 0 = va at C vF vU v44 v35 v36 v38 v39 v34 v10
  -- the reference up to its tokens
  obtain ⟨r1, b1, b2, b3⟩ := read10_T (B := vc 2) (w := up_ vr 814 4 (vr 814 2)) (n := vc 1 1) (by rw [up_s ⟨rfl, rfl⟩]; exact h2) hn (fun k k0 k1 => by
    rw [up_n (by omega)]
    exact hB k k0 k1)
  have wF : ∀ a k, ¬ (a = 814 ∧ (k = 2 ∨ k = 4 ∨ k = 10)) → a ≠ 816 → up_ (up_ r1 814 2 0) 814 10 0 a k = vr a k := fun a k q q2 => by
    rw [up_n (by omega), up_n (by omega), b2 a k q2, up_n (by omega)]
  have wB : RB_ (vc 2) (vc 1 1) (up_ (up_ r1 814 2 0) 814 10 0) := ⟨by rw [up_n (by omega), up_n (by omega), b2 _ _ (by decide), up_s ⟨rfl, rfl⟩]; exact h2, fun k k0 k1 => by rw [up_n (by omega), up_n (by omega)]; exact b3 k k0 k1⟩
  have vB : BB_ (vc 2) (vc 1 1) := ⟨hn, fun k k0 k1 => (hB k k0 k1).2⟩
  obtain ⟨M, v0, w1, s1, s2, s3, s4, s5⟩ := scan_T vB (vc 1 1 - 0).toNat 0 0 va (up_ (up_ r1 814 2 0) 814 10 0) fu_ fu_ rfl (Int.le_refl _) hn.1 (Int.le_refl _) (by decide) (fun k k0 k1 => vF _ _ (by omega) (by omega) (by omega) (by omega) (by omega)) wB (fun k k0 k1 => ⟨by rw [vF _ _ (by omega) (by omega) (by omega) (by omega) (by omega)]; exact (hN k k0 k1).1, by rw [wF _ _ (by omega) (by omega)]; exact (hN k k0 k1).2⟩) ⟨v44, up_s ⟨rfl, rfl⟩, fun k k0 k1 => by omega, fun j k j0 jk k1 => by omega⟩ (by unfold fu_; omega) (by unfold fu_; omega)
  -- the reference's start
  have i18 : w1 814 18 = 1 - i := by rw [s5 _ _ (by omega) (by omega), wF _ _ (by omega) (by omega)]; exact hi2
  have e19 : wr_ (1 - up_ (up_ (up_ w1 814 11 0) 814 13 0) 814 15 0 814 18) = i := by
    rw [up_n (by omega), up_n (by omega), up_n (by omega), i18, wr_id (by omega)]
    omega
  obtain ⟨w0, p1, p2, p3, p4⟩ := plain_T (i := i) (w := up_ (up_ (up_ (up_ (up_ w1 814 11 0) 814 13 0) 814 15 0) 814 19 i) 814 20 0) hi
  have R : fX12_read 814 vr = fX12_read_83 fu_ 814 w0 := by
    unfold fX12_read
    rw [lt_d, b1, lt_d]
    unfold fX12_cut
    rw [lt_d, s2, bd_s, lt_d, lt_d, lt_d, e19, lt_d, lt_d, up_n (show ¬ ((814 : Int) = 814 ∧ (19 : Int) = 20) by omega), up_s ⟨rfl, rfl⟩, p1, bd_s]
  have wG : ∀ a k, ¬ (a = 814 ∧ (k = 11 ∨ k = 13 ∨ k = 15 ∨ k = 19 ∨ k = 20)) → ¬ (a = 823 ∧ k = i) → ¬ ((a = 824 ∨ a = 825) ∧ 4 * i ≤ k ∧ k < 4 * i + 4) → w0 a k = w1 a k := fun a k q q2 q3 => by
    rw [p2 a k q2 q3, up_n (by omega), up_n (by omega), up_n (by omega), up_n (by omega), up_n (by omega)]
  have V0 : ∀ a k, ¬ (6 ≤ a ∧ a ≤ 8) → ¬ (a = 4 ∧ k = 4) → v0 a k = va a k := s4
  have TF : TF_ M v0 w0 := by
    obtain ⟨t1, t2, t3, t4, t5, t6⟩ := s3
    have g : ∀ a k, 817 ≤ a → a ≤ 820 → w0 a k = w1 a k := fun a k q q2 => wG a k (by omega) (by omega) (by omega)
    refine ⟨t1, t2, fun k k0 k1 => TE_n (t3 k k0 k1) (fun _ _ _ => rfl) (fun h q q2 => g _ _ q q2), t4, fun j k j0 jk k1 => ?_, t6⟩
    rw [g _ _ (by decide) (by decide), g _ _ (by decide) (by decide)]
    exact t5 j k j0 jk k1
  have E : EV_ M p i v0 w0 := ⟨TF, hp, hi, by rw [V0 _ _ (by omega) (by omega)]; exact v34, by rw [p2 _ _ (by omega) (by omega), up_n (by omega), up_s ⟨rfl, rfl⟩]⟩
  have x5 : v0 3 5 = 0 := by rw [V0 _ _ (by omega) (by omega)]; exact v35
  have x6 : v0 3 6 = 0 := by rw [V0 _ _ (by omega) (by omega)]; exact v36
  have x8 : v0 3 8 = 0 := by rw [V0 _ _ (by omega) (by omega)]; exact v38
  have x9 : v0 3 9 = -1 := by rw [V0 _ _ (by omega) (by omega)]; exact v39
  have xp : v0 p 0 = 0 := by rw [V0 _ _ (by omega) (by omega), vU _ _ (by omega) (by omega) (by omega)]; exact g1
  have y11 : w0 814 11 = 0 := by rw [p2 _ _ (by omega) (by omega), up_n (by omega), up_n (by omega), up_n (by omega), up_n (by omega), up_s ⟨rfl, rfl⟩]
  have y13 : w0 814 13 = 0 := by rw [p2 _ _ (by omega) (by omega), up_n (by omega), up_n (by omega), up_n (by omega), up_s ⟨rfl, rfl⟩]
  have y15 : w0 814 15 = 0 := by rw [p2 _ _ (by omega) (by omega), up_n (by omega), up_n (by omega), up_s ⟨rfl, rfl⟩]
  have y20 : w0 814 20 = 0 := by rw [p2 _ _ (by omega) (by omega), up_s ⟨rfl, rfl⟩]
  have m1 := TF.1
  have J0 : J_ M p i v0 w0 v0 w0 := ⟨fun _ _ _ _ _ => rfl, fun _ _ _ _ _ _ => rfl, ⟨by omega, fun b b0 b1 => by omega⟩, by omega, by omega, by omega, by omega, fun q => absurd x6 q, fun _ => Or.inl ⟨x8, y15, x9⟩, Int.le_refl _⟩
  have T0 : TP1_ M p i 0 v0 w0 v0 w0 := by
    refine ⟨xp, p3, ⟨y20, fun k k0 k1 => by omega⟩, by decide, fun b b0 b1 => by omega, fun k k0 k1 => ?_, fun t t0 t1 => ?_⟩
    · rw [V0 _ _ (by omega) (by omega)]; exact v10 k (by omega) k1
    · rw [V0 _ _ (by omega) (by omega), V0 _ _ (by omega) (by omega), vU _ _ (by omega) (by omega) (by omega), vU _ _ (by omega) (by omega) (by omega), (g2 t t0 t1).1, (g2 t t0 t1).2, (p4 t t0 t1).1, (p4 t t0 t1).2]
      refine ⟨rfl, rfl, fun _ => ⟨by decide, ?_⟩⟩
      unfold lq4_
      omega
  obtain ⟨v', w', o1, o2, o3, o4⟩ := top_J E 401 fu_ fu_ 0 v0 w0 (by decide) (by decide) (by decide) (by decide) J0 (fun _ => ⟨by omega, 0, T0⟩)
  refine ⟨M, v0, w0, v', w', by rw [C, s1, bd_s]; exact o1, by rw [R]; exact o2, E, o3, o4, fun a k q q2 q3 q4 q5 => ?_, fun a k q q2 q3 => ?_, ?_⟩
  · rw [V0 a k q2 q3, vF a k q q3 q4 (by omega) (by omega)]
  · have h1 : ¬ (a = 823 ∧ k = i) := fun g => q3 (Or.inl g)
    have h2 : ¬ ((a = 824 ∨ a = 825) ∧ 4 * i ≤ k ∧ k < 4 * i + 4) := fun g => q3 (Or.inr (Or.inl g))
    rw [wG a k (by omega) h1 h2, s5 a k (by omega) (by omega), wF a k (by omega) (by omega)]
  · rw [wG _ _ (by omega) (by omega) (by omega), s5 _ _ (by omega) (by omega), up_n (by omega), up_s ⟨rfl, rfl⟩]
end READ0
