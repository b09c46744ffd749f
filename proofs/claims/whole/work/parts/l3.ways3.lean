/-! layer 2: all ways found, in both -/
def WN_ (p n b x : Int) (v w : V_) : Prop := EN_ n (w 832 x) (w 833 x) (w 834 x) (w 835 (2 * x)) (w 835 (2 * x + 1))
/-- the blocks below b have their ways -/
def WI_ (M p i n b : Int) (v0 w0 va wa v w : V_) : Prop := WS_ M p i n v0 w0 v w ∧ (∀ a k, ¬ (a = p + 4 ∧ 0 ≤ k ∧ k < 2 * b) → ¬ (a = 3 ∧ 8 ≤ k ∧ k ≤ 9) → v a k = va a k) ∧ (∀ a k, ¬ (a = 835 ∧ 16 * i ≤ k ∧ k < 16 * i + 2 * b) → ¬ (a = 814 ∧ 15 ≤ k ∧ k ≤ 16) → w a k = wa a k) ∧ (v 3 8 = 0 → va 3 8 = 0) ∧ ∀ c, 0 ≤ c → c < b → v (p + 4) (2 * c) = w 835 (2 * (8 * i + c)) ∧ v (p + 4) (2 * c + 1) = w 835 (2 * (8 * i + c) + 1) ∧ (v 3 8 = 0 → EN_ n (w 832 (8 * i + c)) (w 833 (8 * i + c)) (w 834 (8 * i + c)) (w 835 (2 * (8 * i + c))) (w 835 (2 * (8 * i + c) + 1)))
section WAYS2
variable {M p i : Int} {v0 w0 va wa v w v' w' : V_} {s t b c x j n T k r : Int}
theorem r153_s (N : Nat) {kk : Int → Int → V_ → Option (Int × V_)} {w2 : V_} (hx : 0 ≤ x ∧ x < 16) (hk : 0 ≤ k ∧ k < 2) (h : k ≤ w 832 x) (hr : fX12_known 814 (w 836 (2 * x + k)) w = some (r, w2)) : fX12_read_153 kk (N + 1) 814 x k w = fX12_read_153 kk N 814 x (k + 1) (up_ w2 835 (2 * x + k) r) := by
  rw [fX12_read_153, ck_t hx, show (814 : Int) + 18 = 832 from rfl, if_neg (by omega), wr_id (x := 2 * x) (by omega), wr_id (x := 2 * x + k) (by omega), ck_t (by omega), show (814 : Int) + 22 = 836 from rfl, hr, bd_s, ck_t (by omega), show (814 : Int) + 21 = 835 from rfl, lt_d, wr_id (by omega), lt_d]
theorem r153_e (N : Nat) {kk : Int → Int → V_ → Option (Int × V_)} (hx : 0 ≤ x ∧ x < 16) (h : w 832 x < k) : fX12_read_153 kk (N + 1) 814 x k w = kk 814 (x + 1) w := by
  rw [fX12_read_153, ck_t hx, show (814 : Int) + 18 = 832 from rfl, if_pos h, wr_id (by omega), lt_d]
theorem WI_step (e : EV_ M p i v0 w0) (hb : 0 ≤ b ∧ b < n) (hB : ∀ c, 0 ≤ c → c < n → EB_ M p c (8 * i + c) v0 w0 va wa ∧ va (p + 4) (2 * c) = -2 ∧ va (p + 4) (2 * c + 1) = -2) (h : WI_ M p i n b v0 w0 va wa v w) : ∃ v' w', (∀ N, fX3_resolveWays_2 (N + 2) 3 (2 * b) v = fX3_resolveWays_2 N 3 (2 * (b + 1)) v') ∧ (∀ N, fX12_read_113 (N + 1) 814 (8 * i + b) w = fX12_read_113 N 814 (8 * i + (b + 1)) w') ∧ WI_ M p i n (b + 1) v0 w0 va wa v' w' := by
  have hp := e.2.1
  have hi := e.2.2.1
  obtain ⟨hS, f1, f2, f8, fB⟩ := h
  have hS' := hS
  obtain ⟨h1, h2, h3, h4, h5, h6, -⟩ := hS'
  obtain ⟨⟨-, b2, b3, b4⟩, b5, b6⟩ := hB b hb.1 hb.2
  have V : ∀ a k, a = 10 ∨ a = 11 → v a k = va a k := fun a k q => f1 a k (by omega) (by omega)
  have W : ∀ a k, (832 ≤ a ∧ a ≤ 834) ∨ a = 836 → w a k = wa a k := fun a k q => f2 a k (by omega) (by omega)
  have e32 := W 832 (8 * i + b) (by omega)
  have e33 := W 833 (8 * i + b) (by omega)
  have e34 := W 834 (8 * i + b) (by omega)
  have e35 : w 835 (2 * (8 * i + b)) = -2 := by rw [f2 _ _ (by omega) (by omega)]; exact b2
  have e36 : w 835 (2 * (8 * i + b) + 1) = -2 := by rw [f2 _ _ (by omega) (by omega)]; exact b3
  have d35 : v (p + 4) (2 * b) = -2 := by rw [f1 _ _ (by omega) (by omega)]; exact b5
  have d36 : v (p + 4) (2 * b + 1) = -2 := by rw [f1 _ _ (by omega) (by omega)]; exact b6
  have R : ∀ N, fX12_read_113 (N + 1) 814 (8 * i + b) w = if 2 ≤ w 832 (8 * i + b) then fX12_read_113 N 814 (8 * i + b + 1) w else fX12_read_153 (fX12_read_113 N) fu_ 814 (8 * i + b) 0 w := fun N => by
    rw [fX12_read_113, h4, ck_t (by omega), show (814 : Int) + 9 = 823 from rfl, h5, wr_id (x := 8 * i) (by omega), wr_id (x := 8 * i + n) (by omega), if_neg (by omega), if_pos h6, ck_t (by omega), show (814 : Int) + 18 = 832 from rfl, wr_id (x := 8 * i + b + 1) (by omega), lt_d]
  have W0 : WY_ M b (8 * i + b) 0 v0 w0 va wa → WY_ M b (8 * i + b) 0 v0 w0 v w := fun q => WY_fr q (V _ _ (Or.inl rfl)) (V _ _ (Or.inr rfl)) (W _ _ (Or.inr rfl))
  have K := fun (q : WY_ M b (8 * i + b) 0 v0 w0 v w) => way_R e hS hb rfl (by decide) q
  rcases b4 with ⟨a1, a2, a3, a4, a5⟩ | ⟨a1, a2, a3, a4, a5⟩ | ⟨a1, a2, a3, a4, a5⟩
  · -- a goto
    obtain ⟨r, w2, v1, w1, c1, c2, c3, c4⟩ := K (W0 a4)
    have S1 := WS_wr e hS c4
    obtain ⟨g1, g2, g3, g4, g5⟩ := c4
    rw [Int.add_zero] at c1 c2 c3 g1 g2 g5
    rw [Int.add_zero, Int.add_zero] at g3
    refine ⟨v1, w1, fun N => ?_, fun N => ?_, S1, fun a k q q2 => ?_, fun a k q q2 => ?_, fun q => f8 (g5 q).1, fun c c0 c1' => ?_⟩
    · rw [show N + 2 = N + 1 + 1 from rfl, c1]
      exact (skip_R N hp S1.1 ⟨S1.2.1, h3⟩ hb (k := 1) (by decide) (by rw [g1 _ _ (by omega) (by omega), V _ _ (by omega)]; exact a5)).trans (by rw [show 2 * b + 1 + 1 = 2 * (b + 1) by omega])
    · rw [R, if_neg (by omega), show fu_ = 99998 + 1 + 1 from rfl, r153_s _ (by omega) (by decide) (by omega) (by rw [Int.add_zero]; exact c2), Int.add_zero, ← c3, r153_e _ (by omega) (by rw [g2 _ _ (by omega) (by omega)]; omega), show 8 * i + b + 1 = 8 * i + (b + 1) by omega]
    · rw [g1 _ _ (by omega) q2]
      exact f1 a k (by omega) q2
    · rw [g2 _ _ (by omega) q2]
      exact f2 a k (by omega) q2
    · by_cases cb : c = b
      · rw [cb]
        refine ⟨g3, ?_, fun q => Or.inl ⟨?_, ?_, ?_, ?_, ?_, ?_⟩⟩
        · rw [g1 _ _ (by omega) (by omega), g2 _ _ (by omega) (by omega), d36, e36]
        · rw [g2 _ _ (by omega) (by omega), e32]; exact a1
        · rw [g2 _ _ (by omega) (by omega), e33]; exact a2
        · rw [g2 _ _ (by omega) (by omega), e34]; exact a3
        · exact (g5 q).2.1
        · exact (g5 q).2.2
        · rw [g2 _ _ (by omega) (by omega)]; exact e36
      · obtain ⟨x1, x2, x3⟩ := fB c c0 (by omega)
        have z8 : v1 3 8 = 0 → v 3 8 = 0 := fun q => (g5 q).1
        clear g5
        rw [g1 _ _ (by omega) (by omega), g1 _ _ (by omega) (by omega), g2 _ _ (by omega) (by omega), g2 _ _ (by omega) (by omega), g2 _ _ (by omega) (by omega), g2 _ _ (by omega) (by omega), g2 _ _ (by omega) (by omega)]
        exact ⟨x1, x2, fun q => x3 (z8 q)⟩
  · -- an if
    obtain ⟨r, w2, v1, w1, c1, c2, c3, c4⟩ := K (W0 a4)
    have S1 := WS_wr e hS c4
    obtain ⟨g1, g2, g3, g4, g5⟩ := c4
    rw [Int.add_zero] at c1 c2 c3 g1 g2 g5
    rw [Int.add_zero, Int.add_zero] at g3
    have W1 : WY_ M b (8 * i + b) 1 v0 w0 v1 w1 := WY_fr a5 (by rw [g1 _ _ (by omega) (by omega)]; exact V _ _ (Or.inl rfl)) (by rw [g1 _ _ (by omega) (by omega)]; exact V _ _ (Or.inr rfl)) (by rw [g2 _ _ (by omega) (by omega)]; exact W _ _ (Or.inr rfl))
    obtain ⟨r', w3, v2, w4, k1, k2, k3, k4⟩ := way_R e S1 hb rfl (k := 1) (by decide) W1
    have S2 := WS_wr e S1 k4
    obtain ⟨j1, j2, j3, j4, j5⟩ := k4
    refine ⟨v2, w4, fun N => ?_, fun N => ?_, S2, fun a k q q2 => ?_, fun a k q q2 => ?_, fun q => f8 (g5 (j5 q).1).1, fun c c0 c1' => ?_⟩
    · rw [show N + 2 = N + 1 + 1 from rfl, c1, k1, show 2 * b + 1 + 1 = 2 * (b + 1) by omega]
    · rw [R, if_neg (by omega), show fu_ = 99997 + 1 + 1 + 1 from rfl, r153_s _ (by omega) (by decide) (by omega) (by rw [Int.add_zero]; exact c2), Int.add_zero, ← c3, Int.zero_add, r153_s _ (by omega) (by decide) (by rw [g2 _ _ (by omega) (by omega)]; omega) k2, ← k3, r153_e _ (by omega) (by rw [j2 _ _ (by omega) (by omega), g2 _ _ (by omega) (by omega)]; omega), show 8 * i + b + 1 = 8 * i + (b + 1) by omega]
    · rw [j1 _ _ (by omega) q2, g1 _ _ (by omega) q2]
      exact f1 a k (by omega) q2
    · rw [j2 _ _ (by omega) q2, g2 _ _ (by omega) q2]
      exact f2 a k (by omega) q2
    · by_cases cb : c = b
      · rw [cb]
        refine ⟨?_, j3, fun q => Or.inr (Or.inl ⟨?_, ?_, ?_, ?_, ?_, ?_, ?_⟩)⟩
        · rw [j1 _ _ (by omega) (by omega), j2 _ _ (by omega) (by omega)]; exact g3
        · rw [j2 _ _ (by omega) (by omega), g2 _ _ (by omega) (by omega), e32]; exact a1
        · rw [j2 _ _ (by omega) (by omega), g2 _ _ (by omega) (by omega), e33]; exact a2
        · rw [j2 _ _ (by omega) (by omega), g2 _ _ (by omega) (by omega), e34]; exact a3
        · rw [j2 835 (2 * (8 * i + b)) (by omega) (by omega)]; exact (g5 (j5 q).1).2.1
        · rw [j2 835 (2 * (8 * i + b)) (by omega) (by omega)]; exact (g5 (j5 q).1).2.2
        · exact (j5 q).2.1
        · exact (j5 q).2.2
      · obtain ⟨x1, x2, x3⟩ := fB c c0 (by omega)
        have z8 : v2 3 8 = 0 → v 3 8 = 0 := fun q => (g5 (j5 q).1).1
        clear g5 j5
        rw [j1 _ _ (by omega) (by omega), j1 _ _ (by omega) (by omega), j2 _ _ (by omega) (by omega), j2 _ _ (by omega) (by omega), j2 _ _ (by omega) (by omega), j2 _ _ (by omega) (by omega), j2 _ _ (by omega) (by omega), g1 _ _ (by omega) (by omega), g1 _ _ (by omega) (by omega), g2 _ _ (by omega) (by omega), g2 _ _ (by omega) (by omega), g2 _ _ (by omega) (by omega), g2 _ _ (by omega) (by omega), g2 _ _ (by omega) (by omega)]
        exact ⟨x1, x2, fun q => x3 (z8 q)⟩
  · -- a stop
    refine ⟨v, w, fun N => ?_, fun N => ?_, hS, fun a k q q2 => f1 a k (by omega) q2, fun a k q q2 => f2 a k (by omega) q2, f8, fun c c0 c1' => ?_⟩
    · have s0 := skip_R (N + 1) hp h1 ⟨h2, h3⟩ hb (k := 0) (by decide) (by rw [Int.add_zero, V _ _ (by omega)]; exact a4)
      have s1 := skip_R N hp h1 ⟨h2, h3⟩ hb (k := 1) (by decide) (by rw [V _ _ (by omega)]; exact a5)
      rw [Int.add_zero] at s0
      rw [show N + 2 = N + 1 + 1 from rfl, s0, s1, show 2 * b + 1 + 1 = 2 * (b + 1) by omega]
    · rw [R, if_pos (by omega), show 8 * i + b + 1 = 8 * i + (b + 1) by omega]
    · by_cases cb : c = b
      · rw [cb]
        refine ⟨by rw [d35, e35], by rw [d36, e36], fun q => Or.inr (Or.inr ⟨?_, ?_, ?_, e35, e36⟩)⟩
        · rw [e32]; exact a1
        · rw [e33]; exact a2
        · rw [e34]; exact a3
      · exact fB c c0 (by omega)
theorem ways_T (e : EV_ M p i v0 w0) (hB : ∀ c, 0 ≤ c → c < n → EB_ M p c (8 * i + c) v0 w0 va wa ∧ va (p + 4) (2 * c) = -2 ∧ va (p + 4) (2 * c + 1) = -2) (h : WS_ M p i n v0 w0 va wa) : ∃ v' w', fX3_resolveWays 3 va = some (0, v') ∧ fX12_read_113 fu_ 814 (8 * i) wa = fX12_read_199 814 w' ∧ WI_ M p i n n v0 w0 va wa v' w' := by
  have hp := e.2.1
  have hi := e.2.2.1
  have hn := h.2.2.1
  have L : ∀ (d N1 N2 : Nat) (b : Int) (v w : V_), n = b + d → 0 ≤ b → 2 * d < N1 → d < N2 → WI_ M p i n b v0 w0 va wa v w → ∃ v' w', fX3_resolveWays_2 N1 3 (2 * b) v = some (0, v') ∧ fX12_read_113 N2 814 (8 * i + b) w = fX12_read_199 814 w' ∧ WI_ M p i n n v0 w0 va wa v' w' := by
    intro d
    induction d with
    | zero =>
      intro N1 N2 b v w hb b0 hN1 hN2 hI
      have eb : b = n := by omega
      subst eb
      obtain ⟨N1, rfl⟩ : ∃ m, N1 = m + 1 := ⟨N1 - 1, by omega⟩
      obtain ⟨N2, rfl⟩ : ∃ m, N2 = m + 1 := ⟨N2 - 1, by omega⟩
      have hI' := hI
      obtain ⟨⟨h1, h2, h3, h4, h5, h6, -⟩, -⟩ := hI'
      have hP : p = PA_ ∨ p = PB_ := hp
      rw [fX3_resolveWays_2, h1, ck_t hP, h2, wr_id (by omega), if_pos (by omega), fX12_read_113, h4, ck_t (by omega), show (814 : Int) + 9 = 823 from rfl, h5, wr_id (x := 8 * i) (by omega), wr_id (x := 8 * i + b) (by omega), if_pos (by omega)]
      exact ⟨v, w, rfl, rfl, hI⟩
    | succ d ih =>
      intro N1 N2 b v w hb b0 hN1 hN2 hI
      obtain ⟨N1, rfl⟩ : ∃ m, N1 = m + 2 := ⟨N1 - 2, by omega⟩
      obtain ⟨N2, rfl⟩ : ∃ m, N2 = m + 1 := ⟨N2 - 1, by omega⟩
      obtain ⟨v1, w1, a1, a2, a3⟩ := WI_step e ⟨b0, by omega⟩ hB hI
      rw [a1, a2]
      exact ih N1 N2 (b + 1) v1 w1 (by omega) (by omega) (by omega) (by omega) a3
  have := L n.toNat fu_ fu_ 0 va wa (by omega) (by omega) (by unfold fu_; omega) (by unfold fu_; omega) ⟨h, fun _ _ _ _ => rfl, fun _ _ _ _ => rfl, fun q => q, fun c c0 c1 => by omega⟩
  rw [Int.add_zero] at this
  exact this
end WAYS2
