/-! layer 2: what comes of a text read -/
/-- the program that the reference has told in half i -/
def pgm_ (w : V_) (i : Int) : V_ := fun a k => if a = 0 then w 823 i else if a = 1 then w 826 (8 * i + k) else if a ≤ 6 then w (825 + a) (48 * i + k) else if a ≤ 9 then w (825 + a) (8 * i + k) else if a = 10 then w 835 (16 * i + k) else 0
section READ1
variable {B : Int → Int} {M p i n : Int} {v0 w0 v w v' w' : V_}
theorem pgm_0 (k : Int) : pgm_ w i 0 k = w 823 i := rfl
theorem pgm_1 (k : Int) : pgm_ w i 1 k = w 826 (8 * i + k) := rfl
theorem pgm_2 (k : Int) : pgm_ w i 2 k = w 827 (48 * i + k) := rfl
theorem pgm_3 (k : Int) : pgm_ w i 3 k = w 828 (48 * i + k) := rfl
theorem pgm_4 (k : Int) : pgm_ w i 4 k = w 829 (48 * i + k) := rfl
theorem pgm_5 (k : Int) : pgm_ w i 5 k = w 830 (48 * i + k) := rfl
theorem pgm_6 (k : Int) : pgm_ w i 6 k = w 831 (48 * i + k) := rfl
theorem pgm_7 (k : Int) : pgm_ w i 7 k = w 832 (8 * i + k) := rfl
theorem pgm_8 (k : Int) : pgm_ w i 8 k = w 833 (8 * i + k) := rfl
theorem pgm_9 (k : Int) : pgm_ w i 9 k = w 834 (8 * i + k) := rfl
theorem pgm_10 (k : Int) : pgm_ w i 10 k = w 835 (16 * i + k) := rfl
/-- the program read, in both -/
theorem prog_T (e : EV_ M p i v0 w0) (hT : TP1_ M p i n v0 w0 v w) (hW : WI_ M p i n n v0 w0 v w v' w') (h8 : v' 3 8 = 0) : WF_ (pgm_ w' i) ∧ CP_ v' p (pgm_ w' i) := by
  have hp := e.2.1
  have hi := e.2.2.1
  obtain ⟨t1, t2, t3, t4, t5, t6, t7⟩ := hT
  obtain ⟨s, f1, f2, f8, fB⟩ := hW
  have V : ∀ a k, a ≠ 3 → a ≠ p + 4 → v' a k = v a k := fun a k q q2 => f1 a k (by omega) (by omega)
  have W : ∀ a k, a ≠ 814 → a ≠ 835 → w' a k = w a k := fun a k q q2 => f2 a k (by omega) (by omega)
  have e0 : w' 823 i = n := by rw [W _ _ (by decide) (by decide)]; exact t2
  have X : ∀ b j, 48 * i + (6 * b + j) = 6 * (8 * i + b) + j := fun b j => by omega
  have Y : ∀ b, 16 * i + 2 * b = 2 * (8 * i + b) := fun b => by omega
  have Y1 : ∀ b, 16 * i + (2 * b + 1) = 2 * (8 * i + b) + 1 := fun b => by omega
  refine ⟨⟨by rw [pgm_0, e0]; exact t4, fun b b0 b1 => ?_⟩, hp, ?_, fun b b0 b1 => ?_⟩
  · rw [pgm_0, e0] at b1
    obtain ⟨⟨h1, h2, h3, h4⟩, -, -⟩ := t5 b b0 b1
    have E := (fB b b0 b1).2.2 h8
    have e26 : w' 826 (8 * i + b) = w 826 (8 * i + b) := W _ _ (by decide) (by decide)
    refine ⟨by rw [pgm_1, e26]; exact h1, ?_, fun j j0 j1 => ?_⟩
    · rw [pgm_0, pgm_7, pgm_8, pgm_9, pgm_10, pgm_10, e0, Y, Y1]
      exact E
    · rw [pgm_1, e26] at j1
      rw [pgm_2, pgm_3, pgm_4, pgm_5, pgm_6, X, W _ _ (by decide) (by decide), W _ _ (by decide) (by decide), W _ _ (by decide) (by decide), W _ _ (by decide) (by decide), W _ _ (by decide) (by decide)]
      exact (h3 j j0 j1).2
  · rw [pgm_0, e0, V _ _ (by omega) (by omega)]; exact t1
  · rw [pgm_0, e0] at b1
    obtain ⟨⟨h1, h2, h3, h4⟩, -, -⟩ := t5 b b0 b1
    have E := fB b b0 b1
    have e26 : w' 826 (8 * i + b) = w 826 (8 * i + b) := W _ _ (by decide) (by decide)
    refine ⟨?_, ?_, ?_, ?_, fun j j0 j1 => ?_⟩
    · rw [pgm_1, e26, V _ _ (by omega) (by omega)]; exact h2
    · rw [pgm_7, pgm_8, pgm_9, W _ _ (by decide) (by decide), W _ _ (by decide) (by decide), W _ _ (by decide) (by decide)]
      have := h4.1
      unfold SE_ at this ⊢
      rw [V _ _ (by omega) (by omega), V _ _ (by omega) (by omega), V _ _ (by omega) (by omega), V _ _ (by omega) (by omega)]
      exact this
    · rw [pgm_10, Y]; exact E.1
    · rw [pgm_10, Y1]; exact E.2.1
    · rw [pgm_1, e26] at j1
      rw [pgm_2, pgm_3, pgm_4, pgm_5, pgm_6, X, W _ _ (by decide) (by decide), W _ _ (by decide) (by decide), W _ _ (by decide) (by decide), W _ _ (by decide) (by decide), W _ _ (by decide) (by decide)]
      have := (h3 j j0 j1).1
      unfold SL_ at this ⊢
      rw [V _ _ (by omega) (by omega), V _ _ (by omega) (by omega), V _ _ (by omega) (by omega), V _ _ (by omega) (by omega)]
      exact this
/-- the class's outcome of a text, and the reference's -/
theorem ends_T (e : EV_ M p i v0 w0) (h : J_ M p i v0 w0 v w) (hT : v 3 6 = 0 → ∃ n, TP1_ M p i n v0 w0 v w) : ∃ c y v' w', fX3_parse_117 3 v = some (c, v') ∧ v' 3 7 = y ∧ (∀ a k, a ≠ 3 → ¬ (a = p + 4) → v' a k = v a k) ∧ fX12_read_105 814 w = fX12_read_229 814 814 y w' ∧ (∀ a k, ¬ (a = 814 ∧ 15 ≤ k ∧ k ≤ 16) → ¬ (a = 835 ∧ 16 * i ≤ k ∧ k < 16 * i + 16) → w' a k = w a k) ∧ ((0 < c ∧ fX12_read_229 814 814 y w' = some (c, up_ w' 814 17 y)) ∨ (c = 0 ∧ w' 814 13 = 0 ∧ w' 814 15 = 0 ∧ y = -1 ∧ WF_ (pgm_ w' i) ∧ CP_ v' p (pgm_ w' i) ∧ ∀ t, 0 ≤ t → t < 4 → v' (p + 6) t = w' 824 (4 * i + t) ∧ v' (p + 7) t = w' 825 (4 * i + t) ∧ (1 ≤ w' 824 (4 * i + t) ∧ w' 824 (4 * i + t) ≤ 4) ∧ 1 ≤ w' 825 (4 * i + t) ∧ w' 825 (4 * i + t) ≤ 6)) := by
  have hp := e.2.1
  have hi := e.2.2.1
  have k := JF_ h
  obtain ⟨t1, t2, t3, p3, i3⟩ := J_tok e h
  unfold fX3_parse_117 fX12_read_105
  rw [i3, wr_id (x := 8 * i) (by omega), lt_d]
  by_cases z : v 3 6 = 0
  · obtain ⟨n, hT⟩ := hT z
    have hT' := hT
    obtain ⟨c1, c2, c3, c4, c5, c6, c7⟩ := hT'
    have hlt := h.2.2.2.2.2.2.2.2.1 z
    have S0 : WS_ M p i n v0 w0 v w := by
      refine ⟨p3, c1, c4, i3, c2, by omega, c3, ?_, fun T => t3 _ _ (by decide) (by decide), fun T => t3 _ _ (by decide) (by decide)⟩
      rcases hlt with q | ⟨q1, q2, q3, T, q4, q5, q6, q7, q8⟩
      · exact Or.inl q
      · exact Or.inr ⟨q1, q2, q3, T, q4, q6, q6, q7, q8⟩
    obtain ⟨v1, w1, a1, r1, hW⟩ := ways_T e (fun c c0 cn => ⟨(c5 c c0 cn).1.2.2.2, (c5 c c0 cn).2⟩) S0
    have hW' := hW
    obtain ⟨⟨s1, s2, s3, s4, s5, s6, s7, s8, s9, s10⟩, f1, f2, f8, -⟩ := hW'
    rw [if_pos z, a1, bd_s, r1, lt_d, lt_d]
    try dsimp only
    have e38 : up_ v1 3 6 (v1 3 8) 3 9 = v1 3 9 := up_n (by omega)
    have e36 : up_ (up_ v1 3 6 (v1 3 8)) 3 7 (up_ v1 3 6 (v1 3 8) 3 9) 3 6 = v1 3 8 := by rw [up_n (by omega), up_s ⟨rfl, rfl⟩]
    have e37 : up_ (up_ v1 3 6 (v1 3 8)) 3 7 (up_ v1 3 6 (v1 3 8) 3 9) 3 7 = v1 3 9 := by rw [up_s ⟨rfl, rfl⟩, e38]
    have F : ∀ a k, ¬ (a = 3 ∧ 6 ≤ k ∧ k ≤ 7) → up_ (up_ v1 3 6 (v1 3 8)) 3 7 (up_ v1 3 6 (v1 3 8) 3 9) a k = v1 a k := fun a k q => by rw [up_n (by omega), up_n (by omega)]
    rw [e36]
    generalize up_ (up_ v1 3 6 (v1 3 8)) 3 7 (up_ v1 3 6 (v1 3 8) 3 9) = v2 at e37 F ⊢
    have G : ∀ a k, a ≠ 3 → ¬ (a = p + 4) → v2 a k = v a k := fun a k q q2 => (F a k (by omega)).trans (f1 a k (by omega) (by omega))
    have W : ∀ a k, ¬ (a = 814 ∧ 15 ≤ k ∧ k ≤ 16) → ¬ (a = 835 ∧ 16 * i ≤ k ∧ k < 16 * i + 16) → w1 a k = w a k := fun a k q q2 => f2 a k (by omega) q
    have R : fX12_read_199 814 w1 = fX12_read_229 814 814 (v1 3 9) w1 := by
      unfold fX12_read_199
      rw [if_pos (show w1 814 13 ≤ 0 by omega)]
      rcases s8 with ⟨q1, q2, q3⟩ | ⟨q1, q2, q3, -⟩
      · rw [if_pos (by omega), q3]
      · rw [if_neg (by omega), q2]
    refine ⟨v1 3 8, v1 3 9, v2, w1, rfl, e37, G, R, W, ?_⟩
    rcases s8 with ⟨q1, q2, q3⟩ | ⟨q1, q2, q3, -⟩
    · right
      obtain ⟨P1, P2⟩ := prog_T e hT hW q1
      refine ⟨q1, s6, q2, q3, P1, ?_, fun t t0 t4 => ?_⟩
      · exact CP_fr P1 P2 (fun a k g g2 _ => F a k (by omega))
      · obtain ⟨x1, x2, x3⟩ := c7 t t0 t4
        rw [G _ _ (by omega) (by omega), G _ _ (by omega) (by omega), W _ _ (by omega) (by omega), W _ _ (by omega) (by omega)]
        exact ⟨x1, x2, x3 (f8 q1)⟩
    · left
      refine ⟨by omega, ?_⟩
      unfold fX12_read_229
      rw [lt_d, if_pos (by rw [up_n (by omega)]; omega), if_neg (by rw [up_n (by omega)]; omega), up_n (by omega), q1]
  · rw [if_neg z, show (3 : Int) + 1 = 4 from rfl, placeAt_e e h, bd_s, lt_d]
    try dsimp only
    have R : fX12_read_113 fu_ 814 (8 * i) w = fX12_read_199 814 w := by
      rw [show fu_ = 99999 + 1 from rfl, fX12_read_113, i3, ck_t (by omega), if_neg (show ¬ w 814 13 = 0 by omega)]
      split <;> rfl
    have h14 := h.2.2.2.2.2.2.2.1 z
    refine ⟨v 3 6, w0 818 (v 3 5), _, w, by rw [up_n (by omega)], up_s ⟨rfl, rfl⟩, fun a k q _ => up_n (by omega), ?_, fun _ _ _ _ => rfl, Or.inl ⟨by omega, ?_⟩⟩
    · rw [R, fX12_read_199, if_neg (show ¬ w 814 13 ≤ 0 by omega), h14]
    · unfold fX12_read_229
      rw [lt_d, if_neg (by rw [up_n (by omega)]; omega), up_n (by omega), ← k.1]
end READ1
