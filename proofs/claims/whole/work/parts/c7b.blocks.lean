/-! layer 2: an item's block is one of its trace's -/
def KP_ (v w : V_) : Prop := ∀ a k, a = 846 ∨ a = 847 ∨ a = 848 ∨ a = 850 → w a k = v a k
def BK_ (t b : Int) (v w : V_) : Prop := (∀ k, w 846 k = v 846 k ∧ w 847 k = v 847 k) ∧ (0 ≤ v 848 t ∧ 34 * t + v 848 t ≤ 272 → (v 848 t ≤ w 848 t ∧ 34 * t + w 848 t ≤ 272 ∧ ∀ j, 0 ≤ j → j < w 848 t → w 850 (34 * t + j) = if j < v 848 t then v 850 (34 * t + j) else b))
theorem KP_up {v : V_} {a k x : Int} (h : a ≠ 846 ∧ a ≠ 847 ∧ a ≠ 848 ∧ a ≠ 850) : KP_ v (up_ v a k x) := fun b j hb => up_n (by omega)
theorem KP_tr {u v w : V_} (h : KP_ u v) (h2 : KP_ v w) : KP_ u w := fun a k q => (h2 a k q).trans (h a k q)
theorem BK_k {t b : Int} {v w : V_} (h : KP_ v w) : BK_ t b v w := by
  refine ⟨fun k => ⟨h _ _ (by omega), h _ _ (by omega)⟩, fun q => ⟨?_, ?_, fun j j0 j1 => ?_⟩⟩
  · rw [h _ _ (by omega)]
    exact Int.le_refl _
  · rw [h _ _ (by omega)]
    exact q.2
  · rw [h 848 _ (by omega)] at j1
    rw [if_pos j1]
    exact h _ _ (by omega)
theorem BK_tr {t b : Int} {u v w : V_} (h : BK_ t b u v) (h2 : BK_ t b v w) : BK_ t b u w := by
  refine ⟨fun k => ⟨((h2.1 k).1).trans (h.1 k).1, ((h2.1 k).2).trans (h.1 k).2⟩, fun q => ?_⟩
  obtain ⟨a1, a2, a3⟩ := h.2 q
  obtain ⟨b1, b2, b3⟩ := h2.2 ⟨by omega, a2⟩
  refine ⟨by omega, b2, fun j j0 j1 => ?_⟩
  rw [b3 j j0 j1]
  by_cases c : j < v 848 t
  · rw [if_pos c]
    exact a3 j j0 c
  · rw [if_neg c, if_neg (by omega)]
theorem adds_B {t s b : Int} {v : V_} {o : Int × V_} (ht : 0 ≤ t ∧ t < 8) (h : fX12_adds 814 t s b v = some o) : BK_ t b v o.2 := by
  rw [fX12_adds] at h
  obtain ⟨-, h⟩ := ck_e h
  obtain ⟨y, hy, h⟩ := lt_e h
  obtain ⟨y0, h⟩ := ck_e h
  obtain ⟨v1, e1, h⟩ := lt_e h
  obtain ⟨-, h⟩ := ck_e h
  obtain ⟨v2, e2, h⟩ := lt_e h
  obtain ⟨-, h⟩ := ck_e h
  obtain ⟨v3, e3, h⟩ := lt_e h
  obtain ⟨-, h⟩ := ck_e h
  obtain ⟨v4, e4, h⟩ := lt_e h
  obtain ⟨-, h⟩ := ck_e h
  obtain ⟨v5, e5, h⟩ := lt_e h
  obtain ⟨-, h⟩ := ck_e h
  obtain ⟨v6, e6, h⟩ := lt_e h
  obtain ⟨-, h⟩ := ck_e h
  obtain ⟨v7, e7, h⟩ := lt_e h
  obtain ⟨-, h⟩ := ck_e h
  obtain ⟨v8, e8, h⟩ := lt_e h
  obtain ⟨-, h⟩ := ck_e h
  obtain ⟨-, h⟩ := ck_e h
  obtain ⟨v9, e9, h⟩ := lt_e h
  have ho := Option.some.inj h
  subst ho
  show BK_ t b v v9
  simp only [Int.reduceAdd] at *
  have f8 : ∀ a k, a = 846 ∨ a = 847 ∨ a = 848 → v8 a k = v a k := fun a k q => by
    rw [e8, up_n (by omega), e7, up_n (by omega), e6, up_n (by omega), e5, up_n (by omega), e4, up_n (by omega), e3, up_n (by omega), e2, up_n (by omega), e1, up_n (by omega)]
  have g8 : ∀ k, v8 850 k = if k = y then b else v 850 k := fun k => by
    rw [e8, up_n (by omega), e7, up_n (by omega), e6, up_n (by omega), e5, up_n (by omega), e4, up_n (by omega), e3, up_n (by omega), e2]
    by_cases c : k = y
    · rw [if_pos c, up_s ⟨rfl, c⟩]
    · rw [if_neg c, up_n (by omega), e1, up_n (by omega)]
  refine ⟨fun k => ⟨?_, ?_⟩, fun q => ?_⟩
  · rw [e9, up_n (by omega)]; exact f8 _ _ (by omega)
  · rw [e9, up_n (by omega)]; exact f8 _ _ (by omega)
  · have hy2 : y = 34 * t + v 848 t := by rw [hy, wr_id (show -2147483648 ≤ 34 * t ∧ 34 * t < 2147483648 by omega), wr_id (by omega)]
    have e48 : v9 848 t = v 848 t + 1 := by
      rw [e9, up_s ⟨rfl, rfl⟩, f8 848 t (by omega), wr_id (by omega)]
    refine ⟨by omega, by omega, fun j j0 j1 => ?_⟩
    rw [e9, up_n (by omega), g8]
    by_cases c : j < v 848 t
    · rw [if_pos c, if_neg (by omega)]
    · rw [if_neg c, if_pos (by omega)]
theorem readas_B {a : Int} {v : V_} {o : Int × V_} (h : fX12_readAs 814 a v = some o) : o.2 = v := by
  rw [fX12_readAs] at h
  split at h
  · exact (congrArg Prod.snd (Option.some.inj h)).symm
  · obtain ⟨-, h⟩ := ck_e h
    exact (congrArg Prod.snd (Option.some.inj h)).symm
theorem kind_B {a : Int} {v : V_} {o : Int × V_} (h : fX12_kindOf 814 a v = some o) : o.2 = v := by
  rw [fX12_kindOf] at h
  obtain ⟨-, h⟩ := ck_e h
  split at h
  · obtain ⟨-, h⟩ := ck_e h
    split at h
    · exact (congrArg Prod.snd (Option.some.inj h)).symm
    · exact (congrArg Prod.snd (Option.some.inj h)).symm
  · exact (congrArg Prod.snd (Option.some.inj h)).symm
theorem wayto_B {a c : Int} {v : V_} {o : Int × V_} (h : fX12_wayTo 814 a c v = some o) : o.2 = v := by
  rw [fX12_wayTo] at h
  obtain ⟨-, h⟩ := ck_e h
  exact (congrArg Prod.snd (Option.some.inj h)).symm
theorem wanted_B {t r : Int} : ∀ (n : Nat) (x : Int) (v : V_) (o : Int × V_), fX12_isWanted_5 n 814 t r x v = some o → o.2 = v := by
  intro n
  induction n with
  | zero => intro x v o h; rw [fX12_isWanted_5] at h; cases h
  | succ n ih =>
    intro x v o h
    rw [fX12_isWanted_5] at h
    obtain ⟨-, h⟩ := ck_e h
    split at h
    · exact (congrArg Prod.snd (Option.some.inj h)).symm
    · obtain ⟨-, h⟩ := ck_e h
      split at h
      · obtain ⟨-, h⟩ := ck_e h
        obtain ⟨-, h⟩ := ck_e h
        obtain ⟨q, hq, h⟩ := bd_e h
        have eq := wayto_B hq
        obtain ⟨-, h⟩ := ck_e h
        split at h
        · exact (congrArg Prod.snd (Option.some.inj h)).symm.trans eq
        · obtain ⟨y, -, h⟩ := lt_e h
          exact (ih _ _ _ h).trans eq
      · obtain ⟨y, -, h⟩ := lt_e h
        exact ih _ _ _ h
theorem line178_B {t b r s x : Int} {v : V_} {o : Int × V_} (ht : 0 ≤ t ∧ t < 8) (h : fX12_addsLine_178 814 t b r s x v = some o) : BK_ t b v o.2 := by
  rw [fX12_addsLine_178] at h
  split at h
  · have := (congrArg Prod.snd (Option.some.inj h))
    rw [← this]
    exact BK_k fun _ _ _ => rfl
  · obtain ⟨-, h⟩ := ck_e h
    obtain ⟨-, h⟩ := ck_e h
    obtain ⟨v1, e1, h⟩ := lt_e h
    obtain ⟨q, hq, h⟩ := bd_e h
    obtain ⟨-, h⟩ := ck_e h
    obtain ⟨v2, e2, h⟩ := lt_e h
    obtain ⟨-, h⟩ := ck_e h
    obtain ⟨-, h⟩ := ck_e h
    obtain ⟨v3, e3, h⟩ := lt_e h
    obtain ⟨-, h⟩ := ck_e h
    obtain ⟨v4, e4, h⟩ := lt_e h
    have ho := (congrArg Prod.snd (Option.some.inj h))
    rw [← ho]
    simp only [Int.reduceAdd] at *
    refine BK_tr (BK_k (?_ : KP_ v v1)) (BK_tr (adds_B ht hq) (BK_k ?_))
    · rw [e1]; exact KP_up (by omega)
    · refine KP_tr (v := v2) ?_ (KP_tr (v := v3) ?_ ?_)
      · rw [e2]; exact KP_up (by omega)
      · rw [e3]; exact KP_up (by omega)
      · rw [e4]; exact KP_up (by omega)
theorem line158_B {t b r s x s1 s2 : Int} {v : V_} {o : Int × V_} (ht : 0 ≤ t ∧ t < 8) (h : fX12_addsLine_158 814 t b r s x (814 + 40) s1 s2 v = some o) : BK_ t b v o.2 := by
  rw [fX12_addsLine_158] at h
  obtain ⟨-, h⟩ := ck_e h
  obtain ⟨v1, e1, h⟩ := lt_e h
  have k1 : KP_ v v1 := by rw [e1]; exact KP_up (by omega)
  split at h
  · exact BK_tr (BK_k k1) (line178_B ht h)
  · obtain ⟨-, h⟩ := ck_e h
    obtain ⟨-, h⟩ := ck_e h
    obtain ⟨v2, e2, h⟩ := lt_e h
    have k2 : KP_ v1 v2 := by rw [e2]; exact KP_up (by omega)
    exact BK_tr (BK_k (KP_tr k1 k2)) (line178_B ht h)
theorem line50_B {t b x r s : Int} {v : V_} {o : Int × V_} (ht : 0 ≤ t ∧ t < 8) (h : fX12_addsLine_50 814 t b x r s v = some o) : BK_ t b v o.2 := by
  rw [fX12_addsLine_50] at h
  obtain ⟨q, hq, h⟩ := bd_e h
  obtain ⟨q2, hq2, h⟩ := bd_e h
  obtain ⟨-, h⟩ := ck_e h
  obtain ⟨v1, e1, h⟩ := lt_e h
  obtain ⟨-, h⟩ := ck_e h
  obtain ⟨-, h⟩ := ck_e h
  obtain ⟨v2, e2, h⟩ := lt_e h
  obtain ⟨-, h⟩ := ck_e h
  obtain ⟨-, h⟩ := ck_e h
  obtain ⟨v3, e3, h⟩ := lt_e h
  obtain ⟨-, h⟩ := ck_e h
  obtain ⟨q3, hq3, h⟩ := bd_e h
  obtain ⟨-, h⟩ := ck_e h
  obtain ⟨v4, e4, h⟩ := lt_e h
  obtain ⟨-, h⟩ := ck_e h
  obtain ⟨q5, hq5, h⟩ := bd_e h
  obtain ⟨-, h⟩ := ck_e h
  obtain ⟨v6, e6, h⟩ := lt_e h
  have z2 := kind_B hq2
  have z3 := readas_B hq3
  have z5 := readas_B hq5
  have K : KP_ q.2 v6 := by
    refine KP_tr (v := v1) (by rw [e1, z2]; exact KP_up (by omega)) (KP_tr (v := v2) (by rw [e2]; exact KP_up (by omega)) (KP_tr (v := v3) (by rw [e3]; exact KP_up (by omega)) (KP_tr (v := v4) (by rw [e4, z3]; exact KP_up (by omega)) (by rw [e6, z5]; exact KP_up (by omega)))))
  have B := BK_tr (adds_B ht hq) (BK_k K)
  split at h
  · exact BK_tr B (line158_B ht h)
  · obtain ⟨-, h⟩ := ck_e h
    exact BK_tr B (line158_B ht h)
theorem line_B {t b x : Int} {v : V_} {o : Int × V_} (ht : 0 ≤ t ∧ t < 8) (h : fX12_addsLine 814 t b x v = some o) : BK_ t b v o.2 := by
  rw [fX12_addsLine] at h
  obtain ⟨-, h⟩ := ck_e h
  obtain ⟨y, -, h⟩ := lt_e h
  simp only [fX12_addsLine_49] at h
  split at h
  · split at h
    · exact line50_B ht h
    · obtain ⟨-, h⟩ := ck_e h
      split at h
      · exact line50_B ht h
      · obtain ⟨q, hq, h⟩ := bd_e h
        rw [fX12_isWanted] at hq
        obtain ⟨y1, -, hq⟩ := lt_e hq
        have z := wanted_B _ _ _ _ hq
        split at h
        · rw [z] at h
          exact line50_B ht h
        · rw [z] at h
          exact line50_B ht h
  · exact line50_B ht h
theorem end132_B {t b n x : Int} {v : V_} {o : Int × V_} (h : fX12_addsEnd_132 814 b n x v = some o) : BK_ t b v o.2 := by
  rw [fX12_addsEnd_132] at h
  split at h
  · rw [← (congrArg Prod.snd (Option.some.inj h))]
    exact BK_k fun _ _ _ => rfl
  · obtain ⟨q, hq, h⟩ := bd_e h
    have z := wayto_B hq
    split at h
    · obtain ⟨-, h⟩ := ck_e h
      obtain ⟨v1, e1, h⟩ := lt_e h
      rw [← (congrArg Prod.snd (Option.some.inj h))]
      refine BK_k (?_ : KP_ v v1)
      rw [e1, z]
      exact KP_up (by omega)
    · obtain ⟨-, h⟩ := ck_e h
      obtain ⟨v1, e1, h⟩ := lt_e h
      rw [← (congrArg Prod.snd (Option.some.inj h))]
      refine BK_k (?_ : KP_ v v1)
      rw [e1, z]
      exact KP_up (by omega)
theorem end57_B {t b n x s : Int} {v : V_} {o : Int × V_} (ht : 0 ≤ t ∧ t < 8) (h : fX12_addsEnd_57 814 b n x 814 t s v = some o) : BK_ t b v o.2 := by
  rw [fX12_addsEnd_57] at h
  obtain ⟨q, hq, h⟩ := bd_e h
  obtain ⟨-, h⟩ := ck_e h
  obtain ⟨v1, e1, h⟩ := lt_e h
  obtain ⟨-, h⟩ := ck_e h
  obtain ⟨-, h⟩ := ck_e h
  obtain ⟨v2, e2, h⟩ := lt_e h
  obtain ⟨-, h⟩ := ck_e h
  have K : KP_ q.2 v2 := KP_tr (v := v1) (by rw [e1]; exact KP_up (by omega)) (by rw [e2]; exact KP_up (by omega))
  have B := BK_tr (adds_B ht hq) (BK_k K)
  split at h
  · obtain ⟨-, h⟩ := ck_e h
    obtain ⟨q3, hq3, h⟩ := bd_e h
    obtain ⟨-, h⟩ := ck_e h
    obtain ⟨v4, e4, h⟩ := lt_e h
    obtain ⟨-, h⟩ := ck_e h
    obtain ⟨q5, hq5, h⟩ := bd_e h
    obtain ⟨-, h⟩ := ck_e h
    obtain ⟨v6, e6, h⟩ := lt_e h
    have z3 := readas_B hq3
    have z5 := readas_B hq5
    have K2 : KP_ v2 v6 := KP_tr (v := v4) (by rw [e4, z3]; exact KP_up (by omega)) (by rw [e6, z5]; exact KP_up (by omega))
    exact BK_tr B (BK_tr (BK_k K2) (end132_B h))
  · exact BK_tr B (end132_B h)
theorem end46_B {t b n x : Int} {v : V_} {o : Int × V_} (ht : 0 ≤ t ∧ t < 8) (h : fX12_addsEnd_46 814 t b n x v = some o) : BK_ t b v o.2 := by
  rw [fX12_addsEnd_46] at h
  split at h
  · exact end57_B ht h
  · exact end57_B ht h
theorem end_B {t b n : Int} {v : V_} {o : Int × V_} (ht : 0 ≤ t ∧ t < 8) (h : fX12_addsEnd 814 t b n v = some o) : BK_ t b v o.2 := by
  rw [fX12_addsEnd] at h
  obtain ⟨y, -, h⟩ := lt_e h
  split at h
  · exact end46_B ht h
  · obtain ⟨-, h⟩ := ck_e h
    split at h
    · rw [← (congrArg Prod.snd (Option.some.inj h))]
      exact BK_k fun _ _ _ => rfl
    · obtain ⟨q, hq, h⟩ := bd_e h
      have z := wayto_B hq
      split at h
      · obtain ⟨q2, hq2, h⟩ := bd_e h
        have z2 := wayto_B hq2
        split at h
        · rw [← (congrArg Prod.snd (Option.some.inj h))]
          refine BK_k fun _ _ _ => ?_
          dsimp only
          rw [z2, z]
        · rw [z2, z] at h
          exact end46_B ht h
      · rw [z] at h
        exact end46_B ht h
theorem fills61_B {t x2 b : Int} (ht : 0 ≤ t ∧ t < 8) (k37 : Int → Int → Int → V_ → Option (Int × V_)) : ∀ (n : Nat) (x : Int) (v : V_) (o : Int × V_), fX12_fillsItems_61 k37 n 814 t x2 b x v = some o → ∃ w, BK_ t b v w ∧ k37 814 t (wr_ (x2 + 1)) w = some o := by
  intro n
  induction n with
  | zero => intro x v o h; rw [fX12_fillsItems_61] at h; cases h
  | succ n ih =>
    intro x v o h
    rw [fX12_fillsItems_61] at h
    obtain ⟨q, hq, h⟩ := bd_e h
    rw [fX12_linesOf] at hq
    obtain ⟨-, hq⟩ := ck_e hq
    have z : q.2 = v := (congrArg Prod.snd (Option.some.inj hq)).symm
    split at h
    · obtain ⟨-, h⟩ := ck_e h
      split at h
      · obtain ⟨q2, hq2, h⟩ := bd_e h
        obtain ⟨y, hy, h⟩ := lt_e h
        rw [z] at hq2
        exact ⟨q2.2, end_B ht hq2, by rw [← hy]; exact h⟩
      · obtain ⟨-, h⟩ := ck_e h
        obtain ⟨q2, hq2, h⟩ := bd_e h
        obtain ⟨y, hy, h⟩ := lt_e h
        rw [z] at hq2
        exact ⟨q2.2, end_B ht hq2, by rw [← hy]; exact h⟩
    · obtain ⟨q1, hq1, h⟩ := bd_e h
      obtain ⟨q2, hq2, h⟩ := bd_e h
      obtain ⟨y, hy, h⟩ := lt_e h
      rw [fX12_lineAt] at hq1
      have z1 : q1.2 = q.2 := (congrArg Prod.snd (Option.some.inj hq1)).symm
      rw [z1, z] at hq2
      obtain ⟨w, w1, w2⟩ := ih _ _ _ h
      exact ⟨w, BK_tr (line_B ht hq2) w1, w2⟩
def BM_ (t p : Int) (v : V_) : Prop := (0 ≤ v 848 t ∧ 34 * t + v 848 t ≤ 272) ∧ ∀ j, 0 ≤ j → j < v 848 t → ∃ i, 0 ≤ i ∧ i < p ∧ i < v 847 t ∧ v 850 (34 * t + j) = v 846 (4 * t + i)
theorem fills37_B {t : Int} (ht : 0 ≤ t ∧ t < 8) : ∀ (n : Nat) (x : Int) (v : V_) (o : Int × V_), fX12_fillsItems_37 n 814 t x v = some o → 0 ≤ x → v 847 t ≤ 4 → BM_ t x v → ∃ p, BM_ t p o.2 := by
  intro n
  induction n with
  | zero => intro x v o h; rw [fX12_fillsItems_37] at h; cases h
  | succ n ih =>
    intro x v o h x0 h4 hB
    rw [fX12_fillsItems_37] at h
    obtain ⟨-, h⟩ := ck_e h
    split at h
    · rw [← (congrArg Prod.snd (Option.some.inj h))]
      exact ⟨x, hB⟩
    · rename_i c
      simp only [Int.reduceAdd] at c h
      obtain ⟨-, h⟩ := ck_e h
      obtain ⟨b, hb, h⟩ := lt_e h
      obtain ⟨w, w1, w2⟩ := fills61_B ht _ _ _ _ _ h
      rw [wr_id (show -2147483648 ≤ x + 1 ∧ x + 1 < 2147483648 by omega)] at w2
      rw [wr_id (show -2147483648 ≤ 4 * t ∧ 4 * t < 2147483648 by omega), wr_id (show -2147483648 ≤ 4 * t + x ∧ 4 * t + x < 2147483648 by omega)] at hb
      obtain ⟨a1, a2, a3⟩ := w1.2 hB.1
      have e47 := (w1.1 t).2
      refine ih _ _ _ w2 (by omega) (by omega) ⟨⟨by have := hB.1; omega, a2⟩, fun j j0 j1 => ?_⟩
      rw [a3 j j0 j1]
      by_cases d : j < v 848 t
      · rw [if_pos d]
        obtain ⟨i, i0, i1, i2, i3⟩ := hB.2 j j0 d
        exact ⟨i, i0, by omega, by omega, by rw [(w1.1 _).1]; exact i3⟩
      · rw [if_neg d]
        exact ⟨x, x0, by omega, by omega, by rw [(w1.1 _).1]; exact hb⟩
theorem fills16_B {t : Int} (ht : 0 ≤ t ∧ t < 8) : ∀ (n : Nat) (x : Int) (v : V_) (o : Int × V_), fX12_fillsItems_16 n 814 t x v = some o → v 847 t ≤ 4 → v 848 t = 0 → ∃ p, BM_ t p o.2 := by
  intro n
  induction n with
  | zero => intro x v o h; rw [fX12_fillsItems_16] at h; cases h
  | succ n ih =>
    intro x v o h h4 h8
    rw [fX12_fillsItems_16] at h
    split at h
    · exact fills37_B ht _ _ _ _ h (by decide) h4 ⟨by omega, fun j j0 j1 => by omega⟩
    · obtain ⟨-, h⟩ := ck_e h
      obtain ⟨v1, e1, h⟩ := lt_e h
      obtain ⟨y, -, h⟩ := lt_e h
      have K : KP_ v v1 := by rw [e1]; exact KP_up (by omega)
      exact ih _ _ _ h (by rw [K _ _ (by omega)]; exact h4) (by rw [K _ _ (by omega)]; exact h8)
theorem fills_B {t : Int} {v : V_} {o : Int × V_} (ht : 0 ≤ t ∧ t < 8) (h4 : v 847 t ≤ 4) (h : fX12_fillsItems 814 t v = some o) : ∀ j, 0 ≤ j → j < o.2 848 t → ∃ i, 0 ≤ i ∧ i < o.2 847 t ∧ o.2 850 (34 * t + j) = o.2 846 (4 * t + i) := by
  rw [fX12_fillsItems] at h
  obtain ⟨-, h⟩ := ck_e h
  obtain ⟨v1, e1, h⟩ := lt_e h
  obtain ⟨-, h⟩ := ck_e h
  obtain ⟨v2, e2, h⟩ := lt_e h
  obtain ⟨p, h1, h2⟩ := fills16_B ht _ _ _ _ h (by rw [e2, up_n (by omega), e1, up_n (by omega)]; exact h4) (by rw [e2, up_n (by omega), e1, up_s ⟨by decide, rfl⟩])
  intro j j0 j1
  obtain ⟨i, i0, -, i2, i3⟩ := h2 j j0 j1
  exact ⟨i, i0, i2, i3⟩
