/-! layer 2: a text told, in both: from its first token to its last -/
def TP1_ (M p i n : Int) (v0 w0 v w : V_) : Prop := v p 0 = n ∧ w 823 i = n ∧ NA_ n v w ∧ (0 ≤ n ∧ n ≤ 8) ∧ (∀ b, 0 ≤ b → b < n → BR_ M p b (8 * i + b) v0 w0 v w ∧ v (p + 4) (2 * b) = -2 ∧ v (p + 4) (2 * b + 1) = -2) ∧ (∀ k, 2 * n ≤ k → k < 16 → v 10 k = 0) ∧ ∀ t, 0 ≤ t → t < 4 → v (p + 6) t = w 824 (4 * i + t) ∧ v (p + 7) t = w 825 (4 * i + t) ∧ (v 3 8 = 0 → (1 ≤ w 824 (4 * i + t) ∧ w 824 (4 * i + t) ≤ 4) ∧ 1 ≤ w 825 (4 * i + t) ∧ w 825 (4 * i + t) ≤ 6)
section TOP
variable {M p i : Int} {v0 w0 v w v' w' : V_} {s t b c x j n T : Int}
theorem BR_fr (h : BR_ M p b x v0 w0 v w) (f1 : v' (p + 1) b = v (p + 1) b) (f2 : ∀ a k, p + 8 + 6 * b ≤ a → a < p + 8 + 6 * b + 6 → v' a k = v a k) (f3 : ∀ k, v' (p + 56 + b) k = v (p + 56 + b) k) (f4 : ∀ a k, 10 ≤ a → a ≤ 11 → k = 2 * b ∨ k = 2 * b + 1 → v' a k = v a k) (g1 : w' 826 x = w 826 x) (g2 : ∀ a k, 827 ≤ a → a ≤ 831 → 6 * x ≤ k → k < 6 * x + 6 → w' a k = w a k) (g3 : ∀ a, 832 ≤ a → a ≤ 834 → w' a x = w a x) (g4 : ∀ a k, 835 ≤ a → a ≤ 836 → k = 2 * x ∨ k = 2 * x + 1 → w' a k = w a k) : BR_ M p b x v0 w0 v' w' := by
  obtain ⟨h1, h2, h3, h4⟩ := h
  refine ⟨by rw [g1]; exact h1, by rw [f1, g1]; exact h2, fun j j0 j1 => ?_, ?_⟩
  · rw [g1] at j1
    exact LR_fr (h3 j j0 j1) (fun k => f2 _ _ (by omega) (by omega)) (fun a q q2 => g2 _ _ q q2 (by omega) (by omega))
  · unfold EB_ SE_ at h4 ⊢
    rw [g3 832 (by decide) (by decide), g3 833 (by decide) (by decide), g3 834 (by decide) (by decide), g4 835 _ (by decide) (by decide) (Or.inl rfl), g4 835 _ (by decide) (by decide) (Or.inr rfl), f3, f3, f3, f3, f4 10 (2 * b + 1) (by decide) (by decide) (Or.inr rfl), f4 10 (2 * b) (by decide) (by decide) (Or.inl rfl)]
    obtain ⟨e1, e2, e3, e4⟩ := h4
    have W0 : WY_ M b x 0 v0 w0 v w → WY_ M b x 0 v0 w0 v' w' := fun q => WY_fr q (f4 _ _ (by decide) (by decide) (by omega)) (f4 _ _ (by decide) (by decide) (by omega)) (g4 _ _ (by decide) (by decide) (by omega))
    have W1 : WY_ M b x 1 v0 w0 v w → WY_ M b x 1 v0 w0 v' w' := fun q => WY_fr q (f4 _ _ (by decide) (by decide) (by omega)) (f4 _ _ (by decide) (by decide) (by omega)) (g4 _ _ (by decide) (by decide) (by omega))
    refine ⟨e1, e2, e3, ?_⟩
    rcases e4 with ⟨a1, a2, a3, a4, a5⟩ | ⟨a1, a2, a3, a4, a5⟩ | a
    · exact Or.inl ⟨a1, a2, a3, W0 a4, a5⟩
    · exact Or.inr (Or.inl ⟨a1, a2, a3, W0 a4, W1 a5⟩)
    · exact Or.inr (Or.inr a)
theorem TP1_u (hi : i = 0 ∨ i = 1) (hp : p = 12 ∨ p = 76) (h : TP1_ M p i n v0 w0 v w) (h0 : v' 3 6 = 0) (ho : UO_ M p i v0 w0 v w v' w') : TP1_ M p i n v0 w0 v' w' ∧ v 3 5 < v' 3 5 := by
  obtain ⟨h1, h2, h3, h4, h5, h6, h7⟩ := h
  obtain ⟨-, t, t0, f, g, o⟩ := ho
  obtain ⟨o1, o2, o3, o4⟩ := o h0
  have F : ∀ a k, a ≠ 3 → ¬ (a = p + 6 ∨ a = p + 7) → v' a k = v a k := fun a k q q2 => f a k (by clear o o4; omega) (by clear o o4; omega)
  have G : ∀ a k, a ≠ 814 → ¬ (a = 824 ∨ a = 825) → w' a k = w a k := fun a k q q2 => g a k (by clear o o4; omega) (by clear o o4; omega)
  have h36 : 0 ≤ n ∧ n ≤ 8 := h4
  clear o
  refine ⟨⟨?_, ?_, ⟨?_, fun k k0 k1 => ?_⟩, h4, fun b b0 b1 => ⟨?_, ?_, ?_⟩, fun k k0 k1 => ?_, fun t' a b => ?_⟩, o1⟩
  · rw [F _ _ (by omega) (by omega)]; exact h1
  · rw [G _ _ (by omega) (by omega)]; exact h2
  · rw [g _ _ (by omega) (by omega)]; exact h3.1
  · rw [F _ _ (by omega) (by omega), G _ _ (by omega) (by omega)]; exact h3.2 k k0 k1
  · exact BR_fr (h5 b b0 b1).1 (F _ _ (by omega) (by omega)) (fun a k q q2 => F _ _ (by omega) (by omega)) (fun k => F _ _ (by omega) (by omega)) (fun a k q q2 _ => F _ _ (by omega) (by omega)) (G _ _ (by omega) (by omega)) (fun a k q q2 _ _ => G _ _ (by omega) (by omega)) (fun a q q2 => G _ _ (by omega) (by omega)) (fun a k q q2 _ => G _ _ (by omega) (by omega))
  · rw [F _ _ (by omega) (by omega)]; exact (h5 b b0 b1).2.1
  · rw [F _ _ (by omega) (by omega)]; exact (h5 b b0 b1).2.2
  · rw [F _ _ (by omega) (by omega)]; exact h6 k k0 k1
  · by_cases c : t' = t
    · rw [c]
      exact ⟨o2, o3, fun q => (o4 q).2⟩
    · obtain ⟨x1, x2, x3⟩ := h7 t' a b
      have z8 : v' 3 8 = 0 → v 3 8 = 0 := fun q => (o4 q).1
      clear o4
      rw [f _ _ (by omega) (by omega), f _ _ (by omega) (by omega), g _ _ (by omega) (by omega), g _ _ (by omega) (by omega)]
      exact ⟨x1, x2, fun q => x3 (z8 q)⟩
theorem TP1_b (hi : i = 0 ∨ i = 1) (hp : p = 12 ∨ p = 76) (h : TP1_ M p i n v0 w0 v w) (h0 : v' 3 6 = 0) (ho : BO_ M p i n (8 * i + n) v0 w0 v w v' w') : TP1_ M p i (n + 1) v0 w0 v' w' ∧ v 3 5 < v' 3 5 := by
  obtain ⟨h1, h2, h3, h4, h5, h6, h7⟩ := h
  obtain ⟨-, f, g, o⟩ := ho
  obtain ⟨o1, o2, o3, o4, o5, o6, o7, o8, o9⟩ := o h0
  clear o
  refine ⟨⟨o3, o4, ⟨o5, fun k k0 k1 => ?_⟩, by omega, fun b b0 b1 => ?_, fun k k0 k1 => ?_, fun t a b => ?_⟩, o1⟩
  · by_cases c : k = n
    · rw [c]; exact o7
    · clear o9
      rw [f _ _ (by omega) (by omega) (by omega) (by omega) (by omega) (by omega) (by omega) (by omega), g _ _ (by omega) (by omega) (by omega) (by omega) (by omega) (by omega)]
      exact h3.2 k k0 (by omega)
  · by_cases c : b = n
    · rw [c]; exact ⟨o6, o8⟩
    · obtain ⟨x1, x2, x3⟩ := h5 b b0 (by omega)
      clear o9
      refine ⟨BR_fr x1 (f _ _ (by omega) (by omega) (by omega) (by omega) (by omega) (by omega) (by omega) (by omega)) (fun a k q q2 => f _ _ (by omega) (by omega) (by omega) (by omega) (by omega) (by omega) (by omega) (by omega)) (fun k => f _ _ (by omega) (by omega) (by omega) (by omega) (by omega) (by omega) (by omega) (by omega)) (fun a k q q2 q3 => f _ _ (by omega) (by omega) (by omega) (by omega) (by omega) (by omega) (by omega) (by omega)) (g _ _ (by omega) (by omega) (by omega) (by omega) (by omega) (by omega)) (fun a k q q2 q3 q4 => g _ _ (by omega) (by omega) (by omega) (by omega) (by omega) (by omega)) (fun a q q2 => g _ _ (by omega) (by omega) (by omega) (by omega) (by omega) (by omega)) (fun a k q q2 q3 => g _ _ (by omega) (by omega) (by omega) (by omega) (by omega) (by omega)), ?_, ?_⟩
      · rw [f _ _ (by omega) (by omega) (by omega) (by omega) (by omega) (by omega) (by omega) (by omega)]; exact x2
      · rw [f _ _ (by omega) (by omega) (by omega) (by omega) (by omega) (by omega) (by omega) (by omega)]; exact x3
  · clear o9
    rw [f _ _ (by omega) (by omega) (by omega) (by omega) (by omega) (by omega) (by omega) (by omega)]; exact h6 k (by omega) k1
  · obtain ⟨x1, x2, x3⟩ := h7 t a b
    have z8 : v' 3 8 = 0 → v 3 8 = 0 := o9
    clear o9
    rw [f _ _ (by omega) (by omega) (by omega) (by omega) (by omega) (by omega) (by omega) (by omega), f _ _ (by omega) (by omega) (by omega) (by omega) (by omega) (by omega) (by omega) (by omega), g _ _ (by omega) (by omega) (by omega) (by omega) (by omega) (by omega), g _ _ (by omega) (by omega) (by omega) (by omega) (by omega) (by omega)]
    exact ⟨x1, x2, fun q => x3 (z8 q)⟩
theorem top_J (e : EV_ M p i v0 w0) : ∀ (d N1 N2 : Nat) (c : Int) (v w : V_), c + d = 401 → 0 ≤ c → d < N1 → d < N2 → J_ M p i v0 w0 v w → (v 3 6 = 0 → c ≤ v 3 5 ∧ ∃ n, TP1_ M p i n v0 w0 v w) → ∃ v' w', fX3_parse_52 N1 3 c v = fX3_parse_117 3 v' ∧ fX12_read_83 N2 814 w = fX12_read_105 814 w' ∧ J_ M p i v0 w0 v' w' ∧ (v' 3 6 = 0 → ∃ n, TP1_ M p i n v0 w0 v' w') := by
  have hi := e.2.2.1
  have hp := e.2.1
  have m1 := e.1.1
  intro d
  induction d with
  | zero =>
    intro N1 N2 c v w hc c0 hN1 hN2 h hT
    obtain ⟨N1, rfl⟩ : ∃ m, N1 = m + 1 := ⟨N1 - 1, by omega⟩
    obtain ⟨N2, rfl⟩ : ∃ m, N2 = m + 1 := ⟨N2 - 1, by omega⟩
    have h4 := h.2.2.2.1
    have k := JF_ h
    have z : ¬ v 3 6 = 0 := fun z => by
      have := (hT z).1
      omega
    rw [fX3_parse_52, if_pos (by omega), fX12_read_83, if_neg (show ¬ w 814 13 = 0 by omega)]
    exact ⟨v, w, rfl, rfl, h, fun q => absurd q z⟩
  | succ d ih =>
    intro N1 N2 c v w hc c0 hN1 hN2 h hT
    obtain ⟨N1, rfl⟩ : ∃ m, N1 = m + 1 := ⟨N1 - 1, by omega⟩
    obtain ⟨N2, rfl⟩ : ∃ m, N2 = m + 1 := ⟨N2 - 1, by omega⟩
    have h4 := h.2.2.2.1
    have k := JF_ h
    rw [fX3_parse_52, if_neg (show ¬ 400 < c by omega), fX12_read_83]
    by_cases z : v 3 6 = 0
    · obtain ⟨hT1, n, hT2⟩ := hT z
      rw [if_pos z, if_pos (show w 814 13 = 0 by omega), sees_e e h, is_s e h z (s := 19) (by unfold TkS_; omega)]
      by_cases c1 : v0 6 (v 3 5) = 19
      · rw [if_pos c1, if_pos c1, bd_s, bd_s, if_neg n10_, if_neg n10_]
        exact ⟨v, w, rfl, rfl, h, fun _ => ⟨n, hT2⟩⟩
      · rw [if_neg c1, if_neg c1, bd_s, bd_s, if_pos rfl, if_pos rfl]
        try dsimp only
        rw [sees_e e h]
        unfold fX12_tellOne
        rw [is_s e h z (s := 0) (by unfold TkS_; omega)]
        by_cases c2 : v0 6 (v 3 5) = 0
        · obtain ⟨v1, w1, a1, r1, ho⟩ := units_J e h z c2
          have h1 := ho.1
          rw [if_pos c2, if_pos c2, bd_s, bd_s, if_neg n10_, if_neg n10_, a1, bd_s]
          try dsimp only
          rw [r1, bd_s, wr_id (by omega), lt_d]
          exact ih N1 N2 (c + 1) v1 w1 (by omega) (by omega) (by omega) (by omega) h1 fun q => by
            obtain ⟨y1, y2⟩ := TP1_u hi hp hT2 q ho
            exact ⟨by omega, n, y1⟩
        · rw [if_neg c2, if_neg c2, bd_s, bd_s, if_pos rfl, if_pos rfl]
          try dsimp only
          rw [sees_e e h, is_s e h z (s := 1) (by unfold TkS_; omega)]
          by_cases c3 : v0 6 (v 3 5) = 1
          · have hT2' := hT2
            obtain ⟨t1, t2, t3, t4, t5, t6, t7⟩ := hT2'
            obtain ⟨v1, w1, a1, r1, ho⟩ := block_J e h z c3 rfl ⟨t1, t4⟩ t2 t3 (fun q => ⟨t6 _ (by omega) (by omega), t6 _ (by omega) (by omega)⟩)
            have h1 := ho.1
            rw [if_pos c3, if_pos c3, bd_s, bd_s, if_neg n10_, if_neg n10_, a1, bd_s]
            try dsimp only
            rw [r1, bd_s, wr_id (by omega), lt_d]
            exact ih N1 N2 (c + 1) v1 w1 (by omega) (by omega) (by omega) (by omega) h1 fun q => by
              obtain ⟨y1, y2⟩ := TP1_b hi hp hT2 q ho
              exact ⟨by omega, n + 1, y1⟩
          · obtain ⟨v1, w1, a1, r1, h1, q1, q2, z1⟩ := fail_J e h (c := 1) (by decide)
            have k1 := JF_ h1
            rw [if_neg c3, if_neg c3, bd_s, bd_s, if_pos rfl, if_pos rfl, a1, bd_s]
            try dsimp only
            rw [r1, bd_s, fX12_tellOne_32]
            try dsimp only
            rw [if_neg (show ¬ w1 814 13 ≤ 0 by omega), bd_s, wr_id (by omega), lt_d]
            exact ih N1 N2 (c + 1) v1 w1 (by omega) (by omega) (by omega) (by omega) h1 fun q => absurd q z1
    · rw [if_neg z, if_neg (show ¬ w 814 13 = 0 by omega)]
      exact ⟨v, w, rfl, rfl, h, fun q => absurd q z⟩
end TOP
