/-! layer 2: ways found, in both -/
section WAYS
variable {M p i : Int} {v0 w0 v w v' w' : V_} {s t b c x j n T k r : Int}
/-- what must stand to find a way -/
def WS_ (M p i n : Int) (v0 w0 v w : V_) : Prop := v 3 4 = p ∧ v p 0 = n ∧ (0 ≤ n ∧ n ≤ 8) ∧ w 814 19 = i ∧ w 823 i = n ∧ w 814 13 = 0 ∧ NA_ n v w ∧ LTb_ M M v0 w0 v w ∧ (∀ T, w 818 T = w0 818 T) ∧ ∀ T, w 820 T = w0 820 T
theorem known_e (hn : w 814 20 = n ∧ 0 ≤ n ∧ n ≤ 8) (hT : 0 ≤ T ∧ T < 403) (h13 : w 814 13 = 0) : ∃ r w', fX12_known 814 T w = some (r, w') ∧ ((r = -1 ∧ (∀ k, 0 ≤ k → k < n → w 822 k ≠ w 820 T) ∧ w' = if w 814 15 = 0 ∨ w 818 T < w 814 16 ∨ (w 818 T = w 814 16 ∧ 4 < w 814 15) then fl2_ w 4 (w 818 T) else w) ∨ ((0 ≤ r ∧ r < n) ∧ w 822 r = w 820 T ∧ (∀ k, 0 ≤ k → k < r → w 822 k ≠ w 820 T) ∧ w' = w)) := by
  unfold fX12_known
  have L : ∀ (d N : Nat) (k : Int), n = k + d → d < N → 0 ≤ k → (∀ j, 0 ≤ j → j < k → w 822 j ≠ w 820 T) → ∃ r w', fX12_known_2 N 814 T k w = some (r, w') ∧ ((r = -1 ∧ (∀ k, 0 ≤ k → k < n → w 822 k ≠ w 820 T) ∧ w' = if w 814 15 = 0 ∨ w 818 T < w 814 16 ∨ (w 818 T = w 814 16 ∧ 4 < w 814 15) then fl2_ w 4 (w 818 T) else w) ∨ ((0 ≤ r ∧ r < n) ∧ w 822 r = w 820 T ∧ (∀ k, 0 ≤ k → k < r → w 822 k ≠ w 820 T) ∧ w' = w)) := by
    intro d
    induction d with
    | zero =>
      intro N k hk hN k0 hh
      obtain ⟨N, rfl⟩ : ∃ m, N = m + 1 := ⟨N - 1, by omega⟩
      rw [fX12_known_2, if_pos (by omega), wrong_e (by omega) hT, bd_s]
      exact ⟨-1, _, rfl, Or.inl ⟨rfl, fun j j0 j1 => hh j j0 (by omega), rfl⟩⟩
    | succ d ih =>
      intro N k hk hN k0 hh
      obtain ⟨N, rfl⟩ : ∃ m, N = m + 1 := ⟨N - 1, by omega⟩
      rw [fX12_known_2, if_neg (by omega), ck_t (by omega), ck_t hT, show (814 : Int) + 8 = 822 from rfl, show (814 : Int) + 6 = 820 from rfl]
      by_cases c : w 822 k = w 820 T
      · rw [if_pos (lc_0.mpr c)]
        exact ⟨k, w, rfl, Or.inr ⟨by omega, c, hh, rfl⟩⟩
      · rw [if_neg (fun q => c (lc_0.mp q)), wr_id (by omega), lt_d]
        refine ih N (k + 1) (by omega) (by omega) (by omega) fun j j0 j1 => ?_
        by_cases q : j = k
        · rw [q]; exact c
        · exact hh j j0 (by omega)
  exact L n.toNat fu_ 0 (by omega) (by unfold fu_; omega) (by omega) (fun j j0 j1 => by omega)
/-- a way found, or told as none -/
def WR_ (M p i n b x k : Int) (v0 w0 v w v' w' : V_) : Prop := (∀ a j, ¬ (a = p + 4 ∧ j = 2 * b + k) → ¬ (a = 3 ∧ 8 ≤ j ∧ j ≤ 9) → v' a j = v a j) ∧ (∀ a j, ¬ (a = 835 ∧ j = 2 * x + k) → ¬ (a = 814 ∧ 15 ≤ j ∧ j ≤ 16) → w' a j = w a j) ∧ v' (p + 4) (2 * b + k) = w' 835 (2 * x + k) ∧ LTb_ M M v0 w0 v' w' ∧ (v' 3 8 = 0 → v 3 8 = 0 ∧ 0 ≤ w' 835 (2 * x + k) ∧ w' 835 (2 * x + k) < n)
theorem WS_wr (e : EV_ M p i v0 w0) (h : WS_ M p i n v0 w0 v w) (hr : WR_ M p i n b x k v0 w0 v w v' w') : WS_ M p i n v0 w0 v' w' := by
  have hp := e.2.1
  obtain ⟨h1, h2, h3, h4, h5, h6, ⟨h7, h7'⟩, h8, h9, h10⟩ := h
  obtain ⟨r1, r2, -, r4, -⟩ := hr
  refine ⟨?_, ?_, h3, ?_, ?_, ?_, ⟨?_, fun k k0 k1 => ?_⟩, r4, fun T => ?_, fun T => ?_⟩
  · rw [r1 _ _ (by omega) (by omega)]; exact h1
  · rw [r1 _ _ (by omega) (by omega)]; exact h2
  · rw [r2 _ _ (by omega) (by omega)]; exact h4
  · rw [r2 _ _ (by omega) (by omega)]; exact h5
  · rw [r2 _ _ (by omega) (by omega)]; exact h6
  · rw [r2 _ _ (by omega) (by omega)]; exact h7
  · rw [r1 _ _ (by omega) (by omega), r2 _ _ (by omega) (by omega)]; exact h7' k k0 k1
  · rw [r2 _ _ (by omega) (by omega)]; exact h9 T
  · rw [r2 _ _ (by omega) (by omega)]; exact h10 T
theorem way_R (e : EV_ M p i v0 w0) (h : WS_ M p i n v0 w0 v w) (hb : 0 ≤ b ∧ b < n) (hx : x = 8 * i + b) (hk : 0 ≤ k ∧ k < 2) (hW : WY_ M b x k v0 w0 v w) : ∃ r w2 v' w', (∀ N, fX3_resolveWays_2 (N + 1) 3 (2 * b + k) v = fX3_resolveWays_2 N 3 (2 * b + k + 1) v') ∧ fX12_known 814 (w 836 (2 * x + k)) w = some (r, w2) ∧ w' = up_ w2 835 (2 * x + k) r ∧ WR_ M p i n b x k v0 w0 v w v' w' := by
  have hp := e.2.1
  have hi := e.2.2.1
  have m1 := e.1.1
  obtain ⟨h1, h2, h3, h4, h5, h6, ⟨h7, h7'⟩, h8, h9, h10⟩ := h
  obtain ⟨T, T0, T1, T2, T3, T4⟩ := hW
  have tok := (e.1.2.2.1 _ T0.1 T0.2).1.2.2 T1
  obtain ⟨r, w2, e1, e2⟩ := known_e (w := w) (n := n) (T := T) ⟨h7, h3⟩ (by omega) h6
  obtain ⟨r', n1, n2⟩ := named_e (v := v) (y := v0 8 T) (n := n) h3
  have cmp : ∀ k, 0 ≤ k → k < n → (v 9 k = v0 8 T ↔ w 822 k = w 820 T) := fun k k0 k1 => by
    rw [h10]
    exact NM_eq (h7' k k0 k1) tok
  have rr : r' = r := by
    rcases n2 with ⟨a1, a2⟩ | ⟨a1, a2, a3⟩
    · rcases e2 with ⟨b1, -⟩ | ⟨b1, b2, -⟩
      · omega
      · exact absurd ((cmp r b1.1 b1.2).mpr b2) (a2 r b1.1 b1.2)
    · rcases e2 with ⟨b1, b2, -⟩ | ⟨b1, b2, b3, -⟩
      · exact absurd ((cmp r' a1.1 a1.2).mp a2) (b2 r' a1.1 a1.2)
      · by_cases c1 : r' < r
        · exact absurd ((cmp r' a1.1 a1.2).mp a2) (b3 r' a1.1 c1)
        · by_cases c2 : r < r'
          · exact absurd ((cmp r b1.1 b1.2).mpr b2) (a3 r b1.1 c2)
          · omega
  have hn0 : ¬ v 10 (2 * b + k) = 0 := by rw [T2]; exact NM_n0 tok
  have C : ∀ N, fX3_resolveWays_2 (N + 1) 3 (2 * b + k) v = if r = -1 then fX3_resolveWays_2 N 3 (2 * b + k + 1) (if up_ v (p + 4) (2 * b + k) r 3 8 = 0 ∨ w0 818 T < up_ v (p + 4) (2 * b + k) r 3 9 then fl1_ (up_ v (p + 4) (2 * b + k) r) 4 (w0 818 T) else up_ v (p + 4) (2 * b + k) r) else fX3_resolveWays_2 N 3 (2 * b + k + 1) (up_ v (p + 4) (2 * b + k) r) := fun N => by
    have e34 : up_ v (p + 4) (2 * b + k) r 3 4 = p := by rw [up_n (by omega)]; exact h1
    have e11 : up_ v (p + 4) (2 * b + k) r (3 + 8) (2 * b + k) = w0 818 T := by rw [up_n (by omega)]; exact T3
    have hP : p = PA_ ∨ p = PB_ := hp
    rw [fX3_resolveWays_2, h1, ck_t hP, h2, wr_id (x := n * 2) (by omega), if_neg (by omega), ck_t (by omega), show (3 : Int) + 7 = 10 from rfl, if_neg (fun q => hn0 (lc_0.mp q)), ck_t hP, ck_t (by omega), ck_t hP, T2, n1, bd_s, ck_t (by omega), rr, wr_id (x := 2 * b + k + 1) (by omega), lt_d]
    simp only [lt_d]
    try dsimp only
    rw [ck_t (by rw [e34]; exact hp), ck_t (by omega)]
    by_cases c : r = -1
    · rw [if_pos (by rw [e34, up_s ⟨rfl, rfl⟩]; exact c), ck_t (by omega), e11, failLater_e, bd_s, if_pos c]
    · rw [if_neg (by rw [e34, up_s ⟨rfl, rfl⟩]; exact c), if_neg c]
  rw [T4]
  rcases e2 with ⟨b1, b2, b3⟩ | ⟨b1, b2, b3, b4⟩
  · -- none of that name
    have u8 : up_ v (p + 4) (2 * b + k) r 3 8 = v 3 8 := up_n (by omega)
    have u9 : up_ v (p + 4) (2 * b + k) r 3 9 = v 3 9 := up_n (by omega)
    rw [h9 T] at b3
    have iff : (v 3 8 = 0 ∨ w0 818 T < v 3 9) ↔ (w 814 15 = 0 ∨ w0 818 T < w 814 16 ∨ (w0 818 T = w 814 16 ∧ 4 < w 814 15)) := by
      rcases h8 with ⟨q1, q2, -⟩ | ⟨q1, q2, q3, T', t0, t1, t2, t3, t4⟩
      · exact ⟨fun _ => Or.inl q2, fun _ => Or.inl q1⟩
      · have ne : ¬ (w0 818 T = v 3 9 ∧ 4 < v 3 8) := fun ⟨g, g2⟩ => by
          rw [t3] at g
          have mono := e.1.2.2.2.2.1
          by_cases c1 : T < T'
          · have := mono T T' T0.1 c1 t1
            omega
          · by_cases c2 : T' < T
            · have := mono T' T t0 c2 T0.2
              omega
            · have eT : T' = T := by omega
              have := t4 (by omega)
              rw [eT, T1] at this
              cases this
        omega
    refine ⟨r, w2, _, _, fun N => (C N).trans (if_pos b1), e1, rfl, ?_⟩
    rw [u8, u9, b3]
    obtain ⟨i1, i2, i3⟩ := fl1_i (v := up_ v (p + 4) (2 * b + k) r) (c := 4) (y := w0 818 T)
    obtain ⟨j1, j2, j3⟩ := fl2_i (v := w) (c := 4) (y := w0 818 T)
    by_cases c : v 3 8 = 0 ∨ w0 818 T < v 3 9
    · rw [if_pos c, if_pos (iff.mp c)]
      refine ⟨fun a j q q2 => (i3 a j q2).trans (up_n q), fun a j q q2 => (up_n q).trans (j3 a j q2), ?_, Or.inr ⟨?_, ?_, ?_, T, T0.1, T0.2, T0.2, i2, fun q => ?_⟩, fun q => ?_⟩
      · rw [i3 _ _ (by omega), up_s ⟨rfl, rfl⟩, up_s ⟨rfl, rfl⟩]
      · rw [i1, up_n (by omega), j1]
      · rw [i2, up_n (by omega), j2]
      · rw [i1]; decide
      · rw [i1] at q; cases q
      · rw [i1] at q; cases q
    · rw [if_neg c, if_neg (fun q => c (iff.mpr q))]
      refine ⟨fun a j q q2 => up_n q, fun a j q q2 => up_n q, ?_, LTb_fr h8 ⟨u8, u9⟩ ⟨up_n (by omega), up_n (by omega)⟩, fun q => ?_⟩
      · rw [up_s ⟨rfl, rfl⟩, up_s ⟨rfl, rfl⟩]
      · rw [u8] at q
        exact absurd (Or.inl q) c
  · refine ⟨r, w2, _, _, fun N => (C N).trans (if_neg (by omega)), e1, rfl, ?_⟩
    rw [b4]
    have u8 : up_ v (p + 4) (2 * b + k) r 3 8 = v 3 8 := up_n (by omega)
    have u9 : up_ v (p + 4) (2 * b + k) r 3 9 = v 3 9 := up_n (by omega)
    refine ⟨fun a j q q2 => up_n q, fun a j q q2 => up_n q, ?_, LTb_fr h8 ⟨u8, u9⟩ ⟨up_n (by omega), up_n (by omega)⟩, fun q => ⟨u8.symm.trans q, ?_⟩⟩
    · rw [up_s ⟨rfl, rfl⟩, up_s ⟨rfl, rfl⟩]
    · rw [up_s ⟨rfl, rfl⟩]; exact b1
theorem skip_R (N : Nat) (hp : p = 12 ∨ p = 76) (h1 : v 3 4 = p) (h2 : v p 0 = n ∧ 0 ≤ n ∧ n ≤ 8) (hb : 0 ≤ b ∧ b < n) (hk : 0 ≤ k ∧ k < 2) (hz : v 10 (2 * b + k) = 0) : fX3_resolveWays_2 (N + 1) 3 (2 * b + k) v = fX3_resolveWays_2 N 3 (2 * b + k + 1) v := by
  have hP : p = PA_ ∨ p = PB_ := hp
  rw [fX3_resolveWays_2, h1, ck_t hP, h2.1, wr_id (x := n * 2) (by omega), if_neg (by omega), ck_t (by omega), show (3 : Int) + 7 = 10 from rfl, if_pos (lc_0.mpr hz), wr_id (by omega), lt_d]
end WAYS
