/-! layer 2, feed and back -/
/-- bytes of a word -/
def by_ (w j : Int) : Int := w8_ (w8_ (sR_ w (24 - 8 * j)))
/-- four bytes behind the n of an array -/
def b4_ (v : V_) (a n w : Int) : V_ := fun b i => if b = a ∧ n ≤ i ∧ i < n + 4 then by_ w (i - n) else v b i
theorem b4_s {v : V_} {a n w b i : Int} (h : ¬ (b = a)) : b4_ v a n w b i = v b i := if_neg (fun q => h q.1)
theorem b4_o {v : V_} {a n w b i : Int} (h : ¬ (b = a ∧ n ≤ i ∧ i < n + 4)) : b4_ v a n w b i = v b i := if_neg h
theorem b4_i {v : V_} {a n w b i : Int} (h : b = a ∧ n ≤ i ∧ i < n + 4) : b4_ v a n w b i = by_ w (i - n) := if_pos h
def ap1_ (v : V_) (w : Int) : V_ := up_ (b4_ v 2 (v 1 1) w) 1 1 (v 1 1 + 4)
def ap2_ (v : V_) (w : Int) : V_ := up_ (b4_ v 815 (v 814 2) w) 814 2 (v 814 2 + 4)
theorem append_e {w : Int} {v : V_} (h : 0 ≤ v 1 1 ∧ v 1 1 + 4 ≤ 2000) : fX11_append 1 w v = some (0, ap1_ v w) := by
  unfold fX11_append
  obtain ⟨N, hN⟩ := fu_ge 5 (by decide)
  rw [hN]
  simp (disch := omega) only [fX11_append_3, ↓if_y, ↓if_n, ↓ck_t, ↓lt_d, wr_id, up_s, up_n]
  congr 2
  funext b i
  simp only [up_, b4_, by_, ap1_]
  by_cases h1 : b = 1
  · subst h1
    by_cases h2 : i = 1
    · subst h2; simp; omega
    · simp [h2]
  · by_cases h3 : b = 2
    · subst h3
      simp only [h1, false_and, if_false, show (1 : Int) + 1 = 2 from rfl, true_and]
      by_cases c3 : i = v 1 1 + 1 + 1 + 1
      · rw [if_pos c3, if_pos (by omega), show i - v 1 1 = 3 by omega]; rfl
      · rw [if_neg c3]
        by_cases c2 : i = v 1 1 + 1 + 1
        · rw [if_pos c2, if_pos (by omega), show i - v 1 1 = 2 by omega]; rfl
        · rw [if_neg c2]
          by_cases c1 : i = v 1 1 + 1
          · rw [if_pos c1, if_pos (by omega), show i - v 1 1 = 1 by omega]; rfl
          · rw [if_neg c1]
            by_cases c0 : i = v 1 1
            · rw [if_pos c0, if_pos (by omega), show i - v 1 1 = 0 by omega]; rfl
            · rw [if_neg c0, if_neg (by omega)]
    · simp [h1, h3]
theorem lays_e {w : Int} {v : V_} (h : 0 ≤ v 814 2 ∧ v 814 2 + 4 ≤ 2000) : fX12_lays 814 w v = some (0, ap2_ v w) := by
  unfold fX12_lays
  obtain ⟨N, hN⟩ := fu_ge 5 (by decide)
  rw [hN]
  simp (disch := omega) only [fX12_lays_3, ↓if_y, ↓if_n, ↓ck_t, ↓lt_d, wr_id, up_s, up_n]
  congr 2
  funext b i
  simp only [up_, b4_, by_, ap2_]
  by_cases h1 : b = 814
  · subst h1
    by_cases h2 : i = 2
    · subst h2; simp; omega
    · simp [h2]
  · by_cases h3 : b = 815
    · subst h3
      simp only [h1, false_and, if_false, show (814 : Int) + 1 = 815 from rfl, true_and]
      by_cases c3 : i = v 814 2 + 1 + 1 + 1
      · rw [if_pos c3, if_pos (by omega), show i - v 814 2 = 3 by omega]; rfl
      · rw [if_neg c3]
        by_cases c2 : i = v 814 2 + 1 + 1
        · rw [if_pos c2, if_pos (by omega), show i - v 814 2 = 2 by omega]; rfl
        · rw [if_neg c2]
          by_cases c1 : i = v 814 2 + 1
          · rw [if_pos c1, if_pos (by omega), show i - v 814 2 = 1 by omega]; rfl
          · rw [if_neg c1]
            by_cases c0 : i = v 814 2
            · rw [if_pos c0, if_pos (by omega), show i - v 814 2 = 0 by omega]; rfl
            · rw [if_neg c0, if_neg (by omega)]
    · simp [h1, h3]
/-- the tapes -/
def RT_ (vc vr : V_) : Prop := (0 ≤ vc 1 1 ∧ vc 1 1 ≤ 2000) ∧ vr 814 2 = vc 1 1 ∧ ∀ i, 0 ≤ i → i < vc 1 1 → vr 815 i = vc 2 i ∧ -128 ≤ vc 2 i ∧ vc 2 i < 128
theorem by_b (w j : Int) : -128 ≤ by_ w j ∧ by_ w j < 128 := by
  unfold by_ w8_
  omega
theorem RT_step {vc vr : V_} (w : Int) (h : RT_ vc vr) (h4 : vc 1 1 + 4 ≤ 2000) : RT_ (ap1_ vc w) (ap2_ vr w) ∧ ap1_ vc w 1 1 = vc 1 1 + 4 := by
  obtain ⟨⟨h0, h1⟩, h2, h3⟩ := h
  have e1 : ap1_ vc w 1 1 = vc 1 1 + 4 := up_s ⟨rfl, rfl⟩
  have e2 : ap2_ vr w 814 2 = vr 814 2 + 4 := up_s ⟨rfl, rfl⟩
  refine ⟨⟨⟨by omega, by omega⟩, by omega, fun i i0 i1 => ?_⟩, e1⟩
  rw [e1] at i1
  unfold ap1_ ap2_
  rw [up_n (by omega), up_n (by omega), h2]
  by_cases c : vc 1 1 ≤ i
  · rw [b4_i ⟨rfl, c, i1⟩, b4_i ⟨rfl, c, i1⟩]
    exact ⟨rfl, by_b _ _⟩
  · rw [b4_o (by omega), b4_o (by omega)]
    exact h3 i i0 (by omega)
theorem ap1_o {v : V_} {w b k : Int} (h : ¬ (b = 1 ∧ k = 1)) (h2 : b ≠ 2) : ap1_ v w b k = v b k := by
  unfold ap1_
  rw [up_n h, b4_s h2]
theorem ap2_o {v : V_} {w b k : Int} (h : ¬ (b = 814 ∧ k = 2)) (h2 : b ≠ 815) : ap2_ v w b k = v b k := by
  unfold ap2_
  rw [up_n h, b4_s h2]
/-- what feed and back write -/
def WT1_ (u w : V_) : Prop := ∀ b k, ¬ (b = 1 ∧ k = 1) → b ≠ 2 → w b k = u b k
def WT2_ (u w : V_) : Prop := ∀ b k, ¬ (b = 814 ∧ k = 2) → b ≠ 815 → w b k = u b k
theorem feed_T (a b c d e : Int) {vc vr : V_} (h : RT_ vc vr) : ∃ r vc' vr', fX11_feed 1 a b c d e vc = some (r, vc') ∧ fX12_feed 814 a b c d e vr = some (r, vr') ∧ RT_ vc' vr' ∧ WT1_ vc vc' ∧ WT2_ vr vr' := by
  have h2 := h.2.1
  have h0 := h.1
  by_cases hc : vc 1 1 + 20 ≤ 2000
  · obtain ⟨r1, l1⟩ := RT_step a h (by omega)
    obtain ⟨r2, l2⟩ := RT_step b r1 (by omega)
    obtain ⟨r3, l3⟩ := RT_step c r2 (by omega)
    obtain ⟨r4, l4⟩ := RT_step d r3 (by omega)
    obtain ⟨r5, l5⟩ := RT_step e r4 (by omega)
    have m1 := r1.2.1
    have m2 := r2.2.1
    have m3 := r3.2.1
    have m4 := r4.2.1
    have m5 := r5.2.1
    refine ⟨ap1_ (ap1_ (ap1_ (ap1_ (ap1_ vc a) b) c) d) e 1 1, _, _, ?_, ?_, r5, ?_, ?_⟩
    · unfold fX11_feed
      rw [if_pos (by rw [wr_id (by omega)]; exact hc), append_e (by omega), bd_s, append_e (by dsimp only; omega), bd_s, append_e (by dsimp only; omega), bd_s, append_e (by dsimp only; omega), bd_s, append_e (by dsimp only; omega), bd_s]
    · unfold fX12_feed
      rw [if_pos (by rw [wr_id (by omega)]; omega), lays_e (by omega), bd_s, lays_e (by dsimp only; omega), bd_s, lays_e (by dsimp only; omega), bd_s, lays_e (by dsimp only; omega), bd_s, lays_e (by dsimp only; omega), bd_s]
      dsimp only
      rw [m5]
    · intro b k q1 q2
      rw [ap1_o q1 q2, ap1_o q1 q2, ap1_o q1 q2, ap1_o q1 q2, ap1_o q1 q2]
    · intro b k q1 q2
      rw [ap2_o q1 q2, ap2_o q1 q2, ap2_o q1 q2, ap2_o q1 q2, ap2_o q1 q2]
  · refine ⟨-1, vc, vr, ?_, ?_, h, fun _ _ _ _ => rfl, fun _ _ _ _ => rfl⟩
    · unfold fX11_feed
      rw [if_neg (by rw [wr_id (by omega)]; exact hc)]
    · unfold fX12_feed
      rw [if_neg (by rw [wr_id (by omega)]; omega)]
theorem back_T (a : Int) {vc vr : V_} (h : RT_ vc vr) : ∃ r vc' vr', fX11_back 1 a vc = some (r, vc') ∧ fX12_back 814 a vr = some (r, vr') ∧ RT_ vc' vr' ∧ WT1_ vc vc' ∧ WT2_ vr vr' := by
  obtain ⟨h0, h2, h3⟩ := id h
  unfold fX11_back fX12_back
  by_cases c1 : a < 0
  · exact ⟨-1, vc, vr, by rw [if_pos c1], by rw [if_pos c1], h, fun _ _ _ _ => rfl, fun _ _ _ _ => rfl⟩
  · rw [if_neg c1, if_neg c1]
    by_cases c2 : a ≤ vc 1 1
    · rw [if_pos c2, if_pos (by omega), lt_d, lt_d, wr_id (by omega), wr_id (by omega), h2]
      refine ⟨vc 1 1 - a, _, _, by rw [up_s ⟨rfl, rfl⟩], by rw [up_s ⟨rfl, rfl⟩], ⟨?_, ?_, fun i i0 i1 => ?_⟩, fun b k q1 q2 => up_n q1, fun b k q1 q2 => up_n q1⟩
      · rw [up_s ⟨rfl, rfl⟩]; omega
      · rw [up_s ⟨rfl, rfl⟩, up_s ⟨rfl, rfl⟩]
      · rw [up_s ⟨rfl, rfl⟩] at i1
        rw [up_n (by omega), up_n (by omega)]
        exact h3 i i0 (by omega)
    · exact ⟨-1, vc, vr, by rw [if_neg c2], by rw [if_neg (by omega)], h, fun _ _ _ _ => rfl, fun _ _ _ _ => rfl⟩
