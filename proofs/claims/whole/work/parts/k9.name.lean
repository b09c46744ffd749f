/-! layer 2: a block told, in both: its name -/
/-- the names told -/
def NA_ (n : Int) (v w : V_) : Prop := w 814 20 = n ∧ ∀ k, 0 ≤ k → k < n → NM_ (v 9 k) (w 822 k)
/-- a block begun in the class -/
def ab_ (v : V_) (p n : Int) : V_ := up_ (up_ (sl_ (up_ (up_ v p 0 (n + 1)) (p + 1) n 0) (p + 56 + n) 9 (-2) 0 0) (p + 4) (2 * n) (-2)) (p + 4) (2 * n + 1) (-2)
theorem addBlock_e {v : V_} {p n : Int} (hp : p = 12 ∨ p = 76) (hn : v p 0 = n ∧ 0 ≤ n ∧ n < 8) : fX5_addBlock p v = some (n, ab_ v p n) := by
  unfold fX5_addBlock
  rw [hn.1, lt_d, wr_id (x := n + 1) (by omega), lt_d, ck_t (by omega), lt_d, ck_t (by omega), wr_id (x := n * 2) (by omega), wr_id (x := n * 2 + 1) (by omega), tel_e, bd_s, ck_t (by omega), lt_d, ck_t (by omega), lt_d, show p + 3 + (53 + 1 * n) = p + 56 + n by omega, show n * 2 = 2 * n by omega]
  rfl
theorem ab_o {v : V_} {p n a k : Int} (q : ¬ (a = p ∧ k = 0)) (q2 : ¬ (a = p + 1 ∧ k = n)) (q3 : a ≠ p + 56 + n) (q4 : ¬ (a = p + 4 ∧ (k = 2 * n ∨ k = 2 * n + 1))) : ab_ v p n a k = v a k := by
  unfold ab_
  rw [up_n (by omega), up_n (by omega), sl_o q3, up_n (by omega), up_n (by omega)]
theorem ab_i {v : V_} {p n : Int} (hn : 0 ≤ n ∧ n < 8) : ab_ v p n p 0 = n + 1 ∧ ab_ v p n (p + 1) n = 0 ∧ SE_ (ab_ v p n) (p + 56 + n) 2 20 20 ∧ ab_ v p n (p + 4) (2 * n) = -2 ∧ ab_ v p n (p + 4) (2 * n + 1) = -2 := by
  have S := sl_i (v := up_ (up_ v p 0 (n + 1)) (p + 1) n 0) (y := p + 56 + n) (o := 9) (r := -2) (a := 0) (b := 0)
  have E : ∀ k, ab_ v p n (p + 56 + n) k = sl_ (up_ (up_ v p 0 (n + 1)) (p + 1) n 0) (p + 56 + n) 9 (-2) 0 0 (p + 56 + n) k := fun k => by
    unfold ab_
    rw [up_n (by omega), up_n (by omega)]
  refine ⟨?_, ?_, ⟨?_, ?_, ?_, ?_⟩, ?_, ?_⟩
  · unfold ab_
    rw [up_n (by omega), up_n (by omega), sl_o (by omega), up_n (by omega), up_s ⟨rfl, rfl⟩]
  · unfold ab_
    rw [up_n (by omega), up_n (by omega), sl_o (by omega), up_s ⟨rfl, rfl⟩]
  · rw [E, S.1]; rfl
  · rw [E, S.2.1]
  · rw [E, S.2.2.1]; rfl
  · rw [E, S.2.2.2]; rfl
  · unfold ab_
    rw [up_n (by omega), up_s ⟨rfl, rfl⟩]
  · unfold ab_
    rw [up_s ⟨rfl, rfl⟩]
/-- the first block of a name -/
theorem named_e {v : V_} {y n : Int} (hn : 0 ≤ n ∧ n ≤ 8) : ∃ r, fX3_blockNamed 3 y n v = some (r, v) ∧ ((r = -1 ∧ ∀ k, 0 ≤ k → k < n → v 9 k ≠ y) ∨ ((0 ≤ r ∧ r < n) ∧ v 9 r = y ∧ ∀ k, 0 ≤ k → k < r → v 9 k ≠ y)) := by
  unfold fX3_blockNamed
  have L : ∀ (d N : Nat) (k : Int), n = k + d → d < N → 0 ≤ k → (∀ j, 0 ≤ j → j < k → v 9 j ≠ y) → ∃ r, fX3_blockNamed_3 N 3 y n k v = some (r, v) ∧ ((r = -1 ∧ ∀ k, 0 ≤ k → k < n → v 9 k ≠ y) ∨ ((0 ≤ r ∧ r < n) ∧ v 9 r = y ∧ ∀ k, 0 ≤ k → k < r → v 9 k ≠ y)) := by
    intro d
    induction d with
    | zero =>
      intro N k hk hN k0 hh
      obtain ⟨N, rfl⟩ : ∃ m, N = m + 1 := ⟨N - 1, by omega⟩
      rw [fX3_blockNamed_3, if_pos (by omega)]
      exact ⟨-1, rfl, Or.inl ⟨rfl, fun j j0 j1 => hh j j0 (by omega)⟩⟩
    | succ d ih =>
      intro N k hk hN k0 hh
      obtain ⟨N, rfl⟩ : ∃ m, N = m + 1 := ⟨N - 1, by omega⟩
      rw [fX3_blockNamed_3, if_neg (by omega), if_neg (by omega), ck_t (by omega), show (3 : Int) + 6 = 9 from rfl]
      by_cases c : v 9 k = y
      · rw [if_pos (lc_0.mpr c)]
        exact ⟨k, rfl, Or.inr ⟨by omega, c, hh⟩⟩
      · rw [if_neg (fun q => c (lc_0.mp q)), wr_id (by omega), lt_d]
        refine ih N (k + 1) (by omega) (by omega) (by omega) fun j j0 j1 => ?_
        by_cases q : j = k
        · rw [q]; exact c
        · exact hh j j0 (by omega)
  exact L n.toNat fu_ 0 (by omega) (by unfold fu_; omega) (by omega) (fun j j0 j1 => by omega)
section NAME
variable {M p i : Int} {v0 w0 v w v' w' : V_} {s t b c x j n T : Int}
theorem name_J (e : EV_ M p i v0 w0) (h : J_ M p i v0 w0 v w) (hb : 0 ≤ b ∧ b < 8) (hx : x = 8 * i + b) (hA : v 3 6 = 0 → NA_ b v w) : ∃ v' w', fX3_tellName 3 b v = some (0, v') ∧ (bd_ (fX12_must 814 1 w) fun q5 => fX12_tellBlock_30 fu_ 814 x (v 3 5) 0 q5.2) = fX12_tellBlock_73 814 x (v 3 5) w' ∧ J_ M p i v0 w0 v' w' ∧ (∀ a k, ¬ (a = 3 ∧ 5 ≤ k ∧ k ≤ 9) → ¬ (a = 9 ∧ k = b) → v' a k = v a k) ∧ Eq2_ w w' ∧ (v' 3 6 = 0 → v 3 6 = 0 ∧ v0 6 (v 3 5) = 17 ∧ v' 9 b = v0 8 (v 3 5) ∧ (v' 3 8 = 0 → v 3 8 = 0) ∧ v' 3 5 = v 3 5 + 1) := by
  have h4 := h.2.2.2.1
  have m1 := e.1.1
  have g1 : J_ M p i v0 w0 (up_ v 9 b (v0 8 (v 3 5))) w := J_cw e h fun a k q _ => up_n (by omega)
  obtain ⟨v1, w1, a1, r1, h1, q1, q2, z1⟩ := expect_J e g1 (s := 17) (t := 1) (by unfold TkS_; omega) (by decide)
  have k1 := JF_ h1
  unfold fX3_tellName
  rw [show (3 : Int) + 1 = 4 from rfl, placeAt_e e h, bd_s]
  try dsimp only
  rw [valueAt_e e h, bd_s, ck_t hb, show (3 : Int) + 6 = 9 from rfl, lt_d]
  try dsimp only
  rw [a1, bd_s, r1, bd_s]
  try dsimp only
  have e35 : up_ v 9 b (v0 8 (v 3 5)) 3 5 = v 3 5 := up_n (by omega)
  have C1 : ∀ a k, ¬ (a = 3 ∧ 5 ≤ k ∧ k ≤ 9) → ¬ (a = 9 ∧ k = b) → v1 a k = v a k := fun a k g g2 => (q1 a k (by omega)).trans (up_n g2)
  by_cases y : v1 3 6 = 0
  · obtain ⟨y1, y2, y3⟩ := z1 y
    rw [e35] at y2 y3
    have y0 : v 3 6 = 0 := by rw [up_n (by omega)] at y1; exact y1
    obtain ⟨A1, A2⟩ := hA y0
    have e9 : v1 9 b = v0 8 (v 3 5) := by rw [q1 _ _ (by omega), up_s ⟨rfl, rfl⟩]
    obtain ⟨r, n1, n2⟩ := named_e (v := v1) (y := v0 8 (v 3 5)) (n := b) (by omega)
    rw [if_pos y, ck_t hb, e9, n1, bd_s]
    try dsimp only
    have e38 : v1 3 8 = v 3 8 := (q1 _ _ (by omega)).trans (up_n (by omega))
    have e39 : v1 3 9 = v 3 9 := (q1 _ _ (by omega)).trans (up_n (by omega))
    have gb : LTb_ M (v 3 5) v0 w0 v1 w1 := LTb_fr (LT_b (h.2.2.2.2.2.2.2.2.1 y0)) ⟨e38, e39⟩ ⟨q2 _ _ (by omega), q2 _ _ (by omega)⟩
    obtain ⟨b1, b2, b3⟩ := J_late (c := 3) e h1 (T := v 3 5) ⟨h4.1, by omega⟩ gb (by decide) (fun g => by cases g)
    have tok := (e.1.2.2.1 _ h4.1 h4.2).1.2.2 y2
    have t1 := (J_tok e h1).2.2.1
    have N9 : ∀ k, 0 ≤ k → k < b → v1 9 k = v 9 k := fun k k0 k1 => C1 _ _ (by omega) (by omega)
    -- the reference's loop
    have key : ∀ (P : Prop), (P ↔ ∃ k, (0 ≤ k ∧ k < b) ∧ v1 9 k = v0 8 (v 3 5)) → ∀ w2, (P → w2 = if v1 3 8 = 0 then fl2_ w1 3 (w0 818 (v 3 5)) else w1) → (¬ P → w2 = w1) → fX12_tellBlock_30 fu_ 814 x (v 3 5) 0 w1 = fX12_tellBlock_73 814 x (v 3 5) w2 := fun P hP w2 hy hn => by
      obtain ⟨u, u1, u2, u3⟩ := lp_s (σ := V_) (α := Option (Int × V_)) (F := fun N k s => fX12_tellBlock_30 N 814 x (v 3 5) k s) (K := fun s => fX12_tellBlock_73 814 x (v 3 5) s) (I := fun k s => 0 ≤ k ∧ ((∃ j, (0 ≤ j ∧ j < k) ∧ v1 9 j = v0 8 (v 3 5)) → s = if v1 3 8 = 0 then fl2_ w1 3 (w0 818 (v 3 5)) else w1) ∧ (¬ (∃ j, (0 ≤ j ∧ j < k) ∧ v1 9 j = v0 8 (v 3 5)) → s = w1)) (e := b) (fun N k s hI kb => by
        obtain ⟨k0, hI1, hI2⟩ := hI
        have hs : (s = fl2_ w1 3 (w0 818 (v 3 5)) ∧ v1 3 8 = 0) ∨ s = w1 := by
          by_cases c : ∃ j, (0 ≤ j ∧ j < k) ∧ v1 9 j = v0 8 (v 3 5)
          · by_cases d : v1 3 8 = 0
            · rw [hI1 c, if_pos d]; exact Or.inl ⟨rfl, d⟩
            · rw [hI1 c, if_neg d]; exact Or.inr rfl
          · exact Or.inr (hI2 c)
        have sf : ∀ a k, ¬ (a = 814 ∧ 15 ≤ k ∧ k ≤ 16) → s a k = w1 a k := fun a k g => by
          rcases hs with ⟨q, -⟩ | q
          · rw [q]; exact fl2_i.2.2 a k g
          · rw [q]
        have s20 : s 814 20 = b := by rw [sf _ _ (by omega), q2 _ _ (by omega)]; exact A1
        have s13 : s 814 13 = 0 := by rw [sf _ _ (by omega)]; omega
        have cmp : lc_ (s (814 + 8) k) (s (814 + 6) (v 3 5)) = 0 ↔ v1 9 k = v0 8 (v 3 5) := by
          rw [lc_0, show (814 : Int) + 8 = 822 from rfl, show (814 : Int) + 6 = 820 from rfl, sf _ _ (by omega), sf _ _ (by omega), t1 820 _ (by decide) (by decide), q2 _ _ (by omega), N9 k k0 kb]
          exact (NM_eq (A2 k k0 kb) tok).symm
        try dsimp only
        rw [fX12_tellBlock_30, s20, if_neg (by omega), s13, if_pos rfl, ck_t (by omega), ck_t (by omega)]
        by_cases c : v1 9 k = v0 8 (v 3 5)
        · rw [if_pos (cmp.mpr c), wrong_e (by omega) (by omega), bd_s, wr_id (by omega), lt_d]
          refine ⟨_, rfl, by omega, fun _ => ?_, fun g => absurd ⟨k, by omega, c⟩ g⟩
          try dsimp only
          rcases hs with ⟨q, qz⟩ | q
          · obtain ⟨j1, j2, j3⟩ := fl2_i (v := w1) (c := 3) (y := w0 818 (v 3 5))
            rw [q, j1, j2, j3 818 _ (by omega), t1 818 _ (by decide) (by decide), if_neg (by omega), if_pos qz]
          · rw [q, t1 818 _ (by decide) (by decide)]
            by_cases d : v1 3 8 = 0
            · rw [if_pos (b2.mpr d), if_pos d]
            · rw [if_neg (fun g => d (b2.mp g)), if_neg d]
        · rw [if_neg (fun g => c (cmp.mp g)), wr_id (by omega), lt_d]
          refine ⟨s, rfl, by omega, fun ⟨j, j0, j1⟩ => ?_, fun g => hI2 fun ⟨j, j0, j1⟩ => g ⟨j, by omega, j1⟩⟩
          by_cases d : j = k
          · exact absurd (d ▸ j1) c
          · exact hI1 ⟨j, by omega, j1⟩) (fun N s hI => by
        obtain ⟨k0, hI1, hI2⟩ := hI
        have s20 : s 814 20 = b := by
          have : ∀ a k, ¬ (a = 814 ∧ 15 ≤ k ∧ k ≤ 16) → s a k = w1 a k := fun a k g => by
            by_cases c : ∃ j, (0 ≤ j ∧ j < b) ∧ v1 9 j = v0 8 (v 3 5)
            · rw [hI1 c]
              split
              · exact fl2_i.2.2 a k g
              · rfl
            · rw [hI2 c]
          rw [this _ _ (by omega), q2 _ _ (by omega)]; exact A1
        try dsimp only
        rw [fX12_tellBlock_30, s20, if_pos (Int.le_refl _)]) b.toNat fu_ 0 w1 ⟨Int.le_refl _, fun ⟨j, j0, _⟩ => by omega, fun _ => rfl⟩ (by omega) (by unfold fu_; omega)
      rw [u1]
      by_cases c : P
      · rw [hy c, u3.1 (hP.mp c)]
      · rw [hn c, u3.2 fun g => c (hP.mpr g)]
    rcases n2 with ⟨n2, n3⟩ | ⟨n2, n3, -⟩
    · rw [if_pos n2, key False ⟨False.elim, fun ⟨k, k0, k1⟩ => n3 k k0.1 k0.2 k1⟩ w1 (fun g => g.elim) (fun _ => rfl)]
      exact ⟨v1, w1, rfl, rfl, h1, C1, Eq2_e q2, fun _ => ⟨y0, y2, e9, fun g => e38.symm.trans g, y3⟩⟩
    · rw [if_neg (by omega), failLater_e, bd_s, key True ⟨fun _ => ⟨r, n2, n3⟩, fun _ => trivial⟩ _ (fun _ => rfl) (fun g => absurd trivial g)]
      by_cases d : v1 3 8 = 0
      · rw [if_pos d, if_pos d] at b3
        rw [if_pos (b1.mpr d), if_pos d]
        have F := (fl1_i (v := v1) (c := 3) (y := w0 818 (v 3 5)))
        refine ⟨_, _, rfl, rfl, b3, fun a k g g2 => (F.2.2 a k (by omega)).trans (C1 a k g g2), Eq2_tr (Eq2_e q2) fl2_E, fun _ => ⟨y0, y2, (F.2.2 _ _ (by omega)).trans e9, fun g => ?_, (F.2.2 _ _ (by omega)).trans y3⟩⟩
        have g' : fl1_ v1 3 (w0 818 (v 3 5)) 3 8 = 0 := g
        rw [F.1] at g'
        cases g'
      · rw [if_neg d, if_neg d] at b3
        rw [if_neg (fun g => d (b1.mp g)), if_neg d]
        exact ⟨v1, w1, rfl, rfl, h1, C1, Eq2_e q2, fun _ => ⟨y0, y2, e9, fun g => e38.symm.trans g, y3⟩⟩
  · rw [if_neg y]
    have R : fX12_tellBlock_30 fu_ 814 x (v 3 5) 0 w1 = fX12_tellBlock_73 814 x (v 3 5) w1 := by
      rw [show fu_ = 99999 + 1 from rfl, fX12_tellBlock_30, if_neg (show ¬ w1 814 13 = 0 by omega)]
      split <;> rfl
    exact ⟨v1, w1, rfl, R, h1, C1, Eq2_e q2, fun g => absurd g y⟩
end NAME
