/-! layer 2: run, in both -/
def cn_ (x y : Int) : Int := if 1000000 < wr_ (x + y) then 1000000 else wr_ (x + y)
theorem mn_cn (x y : Int) : mn_ 1000000 (wr_ (x + y)) = cn_ x y := by
  unfold mn_ cn_
  split <;> split <;> omega
theorem counted_e (x y : Int) (v : V_) : fX12_counted x y v = some (cn_ x y, v) := by
  unfold fX12_counted cn_
  by_cases c : wr_ (x + y) ≤ 1000000
  · rw [if_pos c, if_neg (by omega)]
  · rw [if_neg c, if_pos (by omega)]
theorem cadd_T (v : V_) : ∃ u, fX7_addCounts 140 803 804 v = some (0, u) ∧ (∀ a k, ¬ (a = 141 ∧ 14 ≤ k ∧ k < 38) → u a k = v a k) ∧ (∀ k, 0 ≤ k → k < 8 → u 141 (14 + k) = cn_ (v 141 (14 + k)) (v 803 k)) ∧ ∀ k, 0 ≤ k → k < 16 → u 141 (22 + k) = cn_ (v 141 (22 + k)) (v 804 k) := by
  unfold fX7_addCounts
  obtain ⟨u, e, -, h1, h2⟩ := lp_s (σ := V_) (F := fun n i s => fX7_addCounts_2 n 140 803 804 i s) (K := fun s => fX7_addCounts_43 fu_ 140 804 0 s) (e := 8) (I := fun i s => 0 ≤ i ∧ (∀ a k, ¬ (a = 141 ∧ 14 ≤ k ∧ k < 14 + i) → s a k = v a k) ∧ ∀ k, 0 ≤ k → k < i → s 141 (14 + k) = cn_ (v 141 (14 + k)) (v 803 k)) (fun n i s h hi => by
    obtain ⟨i0, a1, a2⟩ := h
    rw [fX7_addCounts_2, if_neg (show ¬ 8 ≤ i by omega), wr_id (show -2147483648 ≤ 14 + i ∧ 14 + i < 2147483648 by omega), ck_t (by omega), ck_t (by omega), ck_t (by omega), lt_d, lt_d, wr_id (show -2147483648 ≤ i + 1 ∧ i + 1 < 2147483648 by omega), mn_cn]
    dsimp only [Int.reduceAdd]
    refine ⟨_, rfl, by omega, fun a k h => (up_n (by omega)).trans (a1 a k (by omega)), fun k k0 k1 => ?_⟩
    by_cases d : k = i
    · rw [up_s ⟨rfl, by omega⟩, a1 141 _ (by omega), a1 803 _ (by omega), d]
    · rw [up_n (by omega)]; exact a2 k k0 (by omega)) (fun n s _ => by
    rw [fX7_addCounts_2, if_pos (by decide)]) 8 fu_ 0 v ⟨by decide, fun _ _ _ => rfl, fun k k0 k1 => by omega⟩ (by decide) (by decide)
  obtain ⟨z, e', -, g1, g2⟩ := lp_s (σ := V_) (F := fun n i s => fX7_addCounts_43 n 140 804 i s) (K := fun s => some (0, s)) (e := 16) (I := fun i s => 0 ≤ i ∧ (∀ a k, ¬ (a = 141 ∧ 22 ≤ k ∧ k < 22 + i) → s a k = u a k) ∧ ∀ k, 0 ≤ k → k < i → s 141 (22 + k) = cn_ (u 141 (22 + k)) (u 804 k)) (fun n i s h hi => by
    obtain ⟨i0, a1, a2⟩ := h
    rw [fX7_addCounts_43, if_neg (show ¬ 16 ≤ i by omega), wr_id (show -2147483648 ≤ 22 + i ∧ 22 + i < 2147483648 by omega), ck_t (by omega), ck_t (by omega), ck_t (by omega), lt_d, lt_d, wr_id (show -2147483648 ≤ i + 1 ∧ i + 1 < 2147483648 by omega), mn_cn]
    dsimp only [Int.reduceAdd]
    refine ⟨_, rfl, by omega, fun a k h => (up_n (by omega)).trans (a1 a k (by omega)), fun k k0 k1 => ?_⟩
    by_cases d : k = i
    · rw [up_s ⟨rfl, by omega⟩, a1 141 _ (by omega), a1 804 _ (by omega), d]
    · rw [up_n (by omega)]; exact a2 k k0 (by omega)) (fun n s _ => by
    rw [fX7_addCounts_43, if_pos (by decide)]) 16 fu_ 0 u ⟨by decide, fun _ _ _ => rfl, fun k k0 k1 => by omega⟩ (by decide) (by decide)
  refine ⟨z, e.trans e', fun a k h => (g1 a k (by omega)).trans (h1 a k (by omega)), fun k k0 k1 => ?_, fun k k0 k1 => ?_⟩
  · rw [g1 _ _ (by omega)]
    exact h2 k k0 k1
  · rw [g2 k k0 k1, h1 141 _ (by omega), h1 804 _ (by omega)]
/-- the row behind a run -/
def rr_ (how : Int) (row r c n g : Int → Int) (k : Int) : Int := if k < 6 then (if how = 0 then r k else row k) else if k < 14 then (if how = 0 then c (k - 6) else row k) else if k < 22 then cn_ (row k) (n (k - 14)) else if k < 38 then cn_ (row k) (g (k - 22)) else row k
theorem rrun_T (w : V_) (how : Int) : ∃ z, fX12_run_11 fu_ 814 how 0 w = (bd_ (fX12_records 814 z) fun q => some (how, q.2)) ∧ (∀ b k, b ≠ 838 → z b k = w b k) ∧ ∀ k, 0 ≤ k → k < 47 → z 838 k = rr_ how (w 838) (w 839) (w 840) (w 841) (w 842) k := by
  obtain ⟨u, e1, -, a1, a2, a3⟩ := lp_s (σ := V_) (F := fun n i s => fX12_run_11 n 814 how i s) (K := fun s => fX12_run_52 fu_ 814 how 0 s) (e := 8) (I := fun i s => 0 ≤ i ∧ (∀ b k, b ≠ 838 → s b k = w b k) ∧ (∀ k, ¬ (14 ≤ k ∧ k < 14 + i) → s 838 k = w 838 k) ∧ ∀ k, 0 ≤ k → k < i → s 838 (14 + k) = cn_ (w 838 (14 + k)) (w 841 k)) (fun n i s h hi => by
    obtain ⟨i0, b1, b2, b3⟩ := h
    rw [fX12_run_11, if_neg (show ¬ 8 ≤ i by omega), wr_id (show -2147483648 ≤ 14 + i ∧ 14 + i < 2147483648 by omega), ck_t (by omega), ck_t (by omega), counted_e, bd_s, ck_t (by omega), lt_d, lt_d, wr_id (show -2147483648 ≤ i + 1 ∧ i + 1 < 2147483648 by omega)]
    dsimp only [Int.reduceAdd]
    refine ⟨_, rfl, by omega, fun b k h => (up_n (by omega)).trans (b1 b k h), fun k h => (up_n (by omega)).trans (b2 k (by omega)), fun k k0 k1 => ?_⟩
    by_cases d : k = i
    · rw [up_s ⟨rfl, by omega⟩, b2 _ (by omega), b1 841 _ (by omega), d]
    · rw [up_n (by omega)]; exact b3 k k0 (by omega)) (fun n s _ => by
    rw [fX12_run_11, if_pos (by decide)]) 8 fu_ 0 w ⟨by decide, fun _ _ _ => rfl, fun _ _ => rfl, fun k k0 k1 => by omega⟩ (by decide) (by decide)
  obtain ⟨x, e2, -, c1, c2, c3⟩ := lp_s (σ := V_) (F := fun n i s => fX12_run_52 n 814 how i s) (K := fun s => fX12_run_93 fu_ 814 how 0 s) (e := 16) (I := fun i s => 0 ≤ i ∧ (∀ b k, b ≠ 838 → s b k = w b k) ∧ (∀ k, ¬ (22 ≤ k ∧ k < 22 + i) → s 838 k = u 838 k) ∧ ∀ k, 0 ≤ k → k < i → s 838 (22 + k) = cn_ (u 838 (22 + k)) (w 842 k)) (fun n i s h hi => by
    obtain ⟨i0, b1, b2, b3⟩ := h
    rw [fX12_run_52, if_neg (show ¬ 16 ≤ i by omega), wr_id (show -2147483648 ≤ 22 + i ∧ 22 + i < 2147483648 by omega), ck_t (by omega), ck_t (by omega), counted_e, bd_s, ck_t (by omega), lt_d, lt_d, wr_id (show -2147483648 ≤ i + 1 ∧ i + 1 < 2147483648 by omega)]
    dsimp only [Int.reduceAdd]
    refine ⟨_, rfl, by omega, fun b k h => (up_n (by omega)).trans (b1 b k h), fun k h => (up_n (by omega)).trans (b2 k (by omega)), fun k k0 k1 => ?_⟩
    by_cases d : k = i
    · rw [up_s ⟨rfl, by omega⟩, b2 _ (by omega), b1 842 _ (by omega), d]
    · rw [up_n (by omega)]; exact b3 k k0 (by omega)) (fun n s _ => by
    rw [fX12_run_52, if_pos (by decide)]) 16 fu_ 0 u ⟨by decide, a1, fun _ _ => rfl, fun k k0 k1 => by omega⟩ (by decide) (by decide)
  have X : ∀ k, 0 ≤ k → k < 47 → x 838 k = rr_ 1 (w 838) (w 839) (w 840) (w 841) (w 842) k := fun k k0 k1 => by
    unfold rr_
    rw [if_neg (show ¬ (1 : Int) = 0 by decide), if_neg (show ¬ (1 : Int) = 0 by decide)]
    by_cases y1 : k < 6
    · rw [if_pos y1, c2 _ (by omega), a2 _ (by omega)]
    · rw [if_neg y1]
      by_cases y2 : k < 14
      · rw [if_pos y2, c2 _ (by omega), a2 _ (by omega)]
      · rw [if_neg y2]
        by_cases y3 : k < 22
        · rw [if_pos y3, c2 _ (by omega)]
          have := a3 (k - 14) (by omega) (by omega)
          rw [show 14 + (k - 14) = k by omega] at this
          exact this
        · rw [if_neg y3]
          by_cases y4 : k < 38
          · rw [if_pos y4]
            have := c3 (k - 22) (by omega) (by omega)
            rw [show 22 + (k - 22) = k by omega, a2 _ (by omega)] at this
            exact this
          · rw [if_neg y4, c2 _ (by omega), a2 _ (by omega)]
  rw [e1, e2]
  obtain ⟨n, hn⟩ := fu_ge 1 (by decide)
  by_cases z : how = 0
  · subst z
    obtain ⟨y, e3, -, d1, d2, d3⟩ := lp_s (σ := V_) (F := fun n i s => fX12_run_93 n 814 0 i s) (K := fun s => fX12_run_123 fu_ 814 0 0 s) (e := 6) (I := fun i s => 0 ≤ i ∧ (∀ b k, b ≠ 838 → s b k = w b k) ∧ (∀ k, ¬ (0 ≤ k ∧ k < i) → s 838 k = x 838 k) ∧ ∀ k, 0 ≤ k → k < i → s 838 k = w 839 k) (fun n i s h hi => by
      obtain ⟨i0, b1, b2, b3⟩ := h
      rw [fX12_run_93, if_neg (show ¬ 6 ≤ i by omega), if_pos rfl, ck_t (by omega), ck_t (by omega), lt_d, lt_d, wr_id (show -2147483648 ≤ i + 1 ∧ i + 1 < 2147483648 by omega)]
      dsimp only [Int.reduceAdd]
      refine ⟨_, rfl, by omega, fun b k h => (up_n (by omega)).trans (b1 b k h), fun k h => (up_n (by omega)).trans (b2 k (by omega)), fun k k0 k1 => ?_⟩
      by_cases d : k = i
      · rw [up_s ⟨rfl, d⟩, b1 839 _ (by omega), d]
      · rw [up_n (by omega)]; exact b3 k k0 (by omega)) (fun n s _ => by
      rw [fX12_run_93, if_pos (by decide)]) 6 fu_ 0 x ⟨by decide, c1, fun _ _ => rfl, fun k k0 k1 => by omega⟩ (by decide) (by decide)
    obtain ⟨t, e4, -, f1, f2, f3⟩ := lp_s (σ := V_) (F := fun n i s => fX12_run_123 n 814 0 i s) (K := fun s => bd_ (fX12_records 814 s) fun q => some ((0 : Int), q.2)) (e := 8) (I := fun i s => 0 ≤ i ∧ (∀ b k, b ≠ 838 → s b k = w b k) ∧ (∀ k, ¬ (6 ≤ k ∧ k < 6 + i) → s 838 k = y 838 k) ∧ ∀ k, 0 ≤ k → k < i → s 838 (6 + k) = w 840 k) (fun n i s h hi => by
      obtain ⟨i0, b1, b2, b3⟩ := h
      rw [fX12_run_123, if_neg (show ¬ 8 ≤ i by omega), if_pos rfl, ck_t (by omega), wr_id (show -2147483648 ≤ 6 + i ∧ 6 + i < 2147483648 by omega), ck_t (by omega), lt_d, lt_d, wr_id (show -2147483648 ≤ i + 1 ∧ i + 1 < 2147483648 by omega)]
      dsimp only [Int.reduceAdd]
      refine ⟨_, rfl, by omega, fun b k h => (up_n (by omega)).trans (b1 b k h), fun k h => (up_n (by omega)).trans (b2 k (by omega)), fun k k0 k1 => ?_⟩
      by_cases d : k = i
      · rw [up_s ⟨rfl, by omega⟩, b1 840 _ (by omega), d]
      · rw [up_n (by omega)]; exact b3 k k0 (by omega)) (fun n s _ => by
      rw [fX12_run_123, if_pos (by decide)]) 8 fu_ 0 y ⟨by decide, d1, fun _ _ => rfl, fun k k0 k1 => by omega⟩ (by decide) (by decide)
    refine ⟨t, e3.trans e4, f1, fun k k0 k1 => ?_⟩
    have X' := X k k0 k1
    unfold rr_ at X' ⊢
    rw [if_pos rfl, if_pos rfl]
    by_cases y1 : k < 6
    · rw [if_pos y1, f2 _ (by omega)]
      exact d3 k k0 y1
    · rw [if_neg y1] at X' ⊢
      by_cases y2 : k < 14
      · rw [if_pos y2]
        have := f3 (k - 6) (by omega) (by omega)
        rw [show 6 + (k - 6) = k by omega] at this
        exact this
      · rw [if_neg y2] at X' ⊢
        rw [f2 _ (by omega), d2 _ (by omega)]
        exact X'
  · refine ⟨x, ?_, c1, fun k k0 k1 => ?_⟩
    · rw [hn]
      show fX12_run_93 (n + 1) 814 how 0 x = _
      rw [fX12_run_93, if_neg (by decide), if_neg z, hn]
      show fX12_run_123 (n + 1) 814 how 0 x = _
      rw [fX12_run_123, if_neg (by decide), if_neg z]
    · have X' := X k k0 k1
      unfold rr_ at X' ⊢
      rw [if_neg (show ¬ (1 : Int) = 0 by decide), if_neg (show ¬ (1 : Int) = 0 by decide)] at X'
      rw [if_neg z, if_neg z]
      exact X'
