/-! layer 2: what the reference reads of a laid trace -/
section RDS
variable {g v : V_} {t m : Int}
theorem ix_ {t j : Int} (ht : 0 ≤ t ∧ t < 8) (hj : 0 ≤ j ∧ j < 34) : wr_ (wr_ (34 * t) + j) = 34 * t + j := by
  rw [wr_id (show -2147483648 ≤ 34 * t ∧ 34 * t < 2147483648 by omega), wr_id (by omega)]
theorem splits_e (ht : 0 ≤ t ∧ t < 8) (hm : 1 ≤ m ∧ m ≤ 34) (h : v 848 t = m) : fX12_splitsOf 814 t v = some (ct_ (sp_ v t) m.toNat, v) := by
  unfold fX12_splitsOf
  obtain ⟨s, e, -, h1⟩ := lp_s (σ := Int) (F := fun n j s => fX12_splitsOf_4 n 814 t s j v) (K := fun s => some (s, v)) (e := m) (I := fun j s => 0 ≤ j ∧ s = ct_ (sp_ v t) j.toNat) (fun n j s h' hj => by
    obtain ⟨j0, h1⟩ := h'
    have cb := ct_01 (f := sp_ v t) (fun i => by unfold sp_; split <;> decide) j.toNat
    rw [fX12_splitsOf_4, ck_t (by omega)]
    simp only [Int.reduceAdd]
    rw [if_neg (show ¬ v 848 t ≤ j by omega), ix_ ht ⟨j0, by omega⟩, ck_t (by omega)]
    refine ⟨ct_ (sp_ v t) (j + 1).toNat, ?_, by omega, rfl⟩
    rw [show (j + 1).toNat = j.toNat + 1 by omega]
    simp only [ct_]
    rw [show ((j.toNat : Nat) : Int) = j by omega]
    by_cases c : v 849 (34 * t + j) = 2
    · rw [if_pos c, lt_d, lt_d, wr_id (by omega), wr_id (by omega), h1]
      unfold sp_
      rw [if_pos c]
    · rw [if_neg c, lt_d, wr_id (by omega), h1]
      unfold sp_
      rw [if_neg c, Int.add_zero]) (fun n s _ => by
    rw [fX12_splitsOf_4, ck_t (by omega)]
    simp only [Int.reduceAdd]
    rw [if_pos (show v 848 t ≤ m by omega)]) m.toNat fu_ 0 0 ⟨by decide, rfl⟩ (by omega) (by unfold fu_; omega)
  rw [h1] at e
  exact e
theorem plain_e (hg : RG_ g) (hD : D_ v g) (ht : 0 ≤ t ∧ t < 8) (hm : 1 ≤ m ∧ m ≤ 34) (h : v 848 t = m) (hk : ∀ j, 0 ≤ j → j < m → 0 ≤ v 851 (34 * t + j) ∧ v 851 (34 * t + j) < 4) : fX12_plainOf 814 t v = some (ct_ (pl_ g v t) m.toNat, v) := by
  have lb : ∀ j, 0 ≤ j → j < m → 0 ≤ lat_ g v (34 * t + j) ∧ lat_ g v (34 * t + j) ≤ 6 := fun j j0 j1 => by
    have := hk j j0 j1
    have := hg.2.2.2.2 (43 + v 851 (34 * t + j)) (by omega) (by omega)
    unfold lat_
    omega
  have pb : ∀ j, 0 ≤ j → j < m → 0 ≤ pl_ g v t j ∧ pl_ g v t j ≤ 6 := fun j j0 j1 => by
    have := lb j j0 j1
    unfold pl_
    split <;> omega
  unfold fX12_plainOf
  obtain ⟨s, e, -, h1⟩ := lp_s (σ := Int) (F := fun n j s => fX12_plainOf_4 n 814 t s j v) (K := fun s => some (s, v)) (e := m) (I := fun j s => 0 ≤ j ∧ s = ct_ (pl_ g v t) j.toNat) (fun n j s h' hj => by
    obtain ⟨j0, h1⟩ := h'
    have cb := ct_le (f := pl_ g v t) (B := 6) j.toNat (fun i i0 i1 => pb i i0 (by omega))
    have b1 := lb j j0 hj
    have b2 := hk j j0 hj
    rw [fX12_plainOf_4, ck_t (by omega)]
    simp only [Int.reduceAdd]
    rw [if_neg (show ¬ v 848 t ≤ j by omega), ix_ ht ⟨j0, by omega⟩, ck_t (by omega)]
    refine ⟨ct_ (pl_ g v t) (j + 1).toNat, ?_, by omega, rfl⟩
    rw [show (j + 1).toNat = j.toNat + 1 by omega]
    simp only [ct_]
    rw [show ((j.toNat : Nat) : Int) = j by omega]
    by_cases c : v 849 (34 * t + j) = 1
    · rw [if_pos c, lt_d, wr_id (by omega), h1]
      unfold pl_
      rw [if_pos c, Int.add_zero]
    · rw [if_neg c]
      unfold fX12_takesItem
      rw [ck_t (by omega)]
      simp only [Int.reduceAdd]
      rw [takesOf_e hD b2, bd_s, bd_s, lt_d, lt_d]
      unfold lat_ at b1
      try dsimp only
      rw [wr_id (by omega), wr_id (by omega), h1]
      unfold pl_
      rw [if_neg c]
      rfl) (fun n s _ => by
    rw [fX12_plainOf_4, ck_t (by omega)]
    simp only [Int.reduceAdd]
    rw [if_pos (show v 848 t ≤ m by omega)]) m.toNat fu_ 0 0 ⟨by decide, rfl⟩ (by omega) (by unfold fu_; omega)
  rw [h1] at e
  exact e
theorem guess_e {j : Int} (ht : 0 ≤ t ∧ t < 8) (hj : 0 ≤ j ∧ j < 34) : ∃ r, fX12_isGuess 814 t j v = some (r, v) ∧ ((r = 1 ∧ gu_ v t j) ∨ (r = 0 ∧ ¬ gu_ v t j)) := by
  unfold fX12_isGuess
  simp only [Int.reduceAdd]
  rw [ix_ ht hj, ck_t (by omega)]
  by_cases c : v 849 (34 * t + j) = 0
  · rw [if_pos c]
    rcases lp_x (σ := Unit) (F := fun n i _ => fX12_isGuess_18 n 814 t j i v) (K := fun _ => some (0, v)) (e := j) (I := fun i _ => 0 ≤ i ∧ ∀ k, 0 ≤ k → k < i → ¬ (v 849 (34 * t + k) = 2 ∧ v 858 (34 * t + j) ≤ v 858 (34 * t + k))) (Q := fun out => out = some (1, v) ∧ gu_ v t j) (fun n i _ h hi => by
      obtain ⟨i0, h⟩ := h
      have nx : ¬ (v 849 (34 * t + i) = 2 ∧ v 858 (34 * t + j) ≤ v 858 (34 * t + i)) → 0 ≤ i + 1 ∧ ∀ k, 0 ≤ k → k < i + 1 → ¬ (v 849 (34 * t + k) = 2 ∧ v 858 (34 * t + j) ≤ v 858 (34 * t + k)) := fun x => ⟨by omega, fun k k0 k1 => by
        rcases (by omega : k < i ∨ k = i) with y | y
        · exact h k k0 y
        · rw [y]; exact x⟩
      rw [fX12_isGuess_18, if_neg (by omega)]
      simp only [Int.reduceAdd]
      rw [ix_ ht ⟨i0, by omega⟩, ck_t (by omega)]
      by_cases c1 : v 849 (34 * t + i) = 2
      · rw [if_pos c1, ix_ ht hj, ck_t (by omega), ck_t (by omega)]
        by_cases c2 : v 858 (34 * t + i) < v 858 (34 * t + j)
        · rw [if_pos c2, lt_d, wr_id (by omega)]
          exact Or.inl ⟨(), rfl, nx fun x => by omega⟩
        · rw [if_neg c2]
          exact Or.inr ⟨rfl, c, i, i0, hi, c1, by omega⟩
      · rw [if_neg c1, lt_d, wr_id (by omega)]
        exact Or.inl ⟨(), rfl, nx fun x => c1 x.1⟩) (fun n _ _ => by
      rw [fX12_isGuess_18, if_pos (Int.le_refl _)]) j.toNat fu_ 0 () ⟨by decide, fun k k0 k1 => absurd k0 (by omega)⟩ (by omega) (by unfold fu_; omega) with ⟨_, e, -, h⟩ | ⟨e, h⟩
    · exact ⟨0, e, Or.inr ⟨rfl, fun ⟨_, i, i0, i1, i2, i3⟩ => h i i0 i1 ⟨i2, i3⟩⟩⟩
    · exact ⟨1, e, Or.inl ⟨rfl, h⟩⟩
  · rw [if_neg c]
    exact ⟨0, rfl, Or.inr ⟨rfl, fun x => c x.1⟩⟩
theorem guesses_e {f : Int → Int} (ht : 0 ≤ t ∧ t < 8) (hm : 1 ≤ m ∧ m ≤ 34) (h : v 848 t = m) (hf : ∀ j, 0 ≤ j → j < m → (f j = 1 ∧ gu_ v t j) ∨ (f j = 0 ∧ ¬ gu_ v t j)) : fX12_guessesOf 814 t v = some (ct_ f m.toNat, v) := by
  unfold fX12_guessesOf
  obtain ⟨s, e, -, h1⟩ := lp_s (σ := Int) (F := fun n j s => fX12_guessesOf_4 n 814 t s j v) (K := fun s => some (s, v)) (e := m) (I := fun j s => 0 ≤ j ∧ s = ct_ f j.toNat) (fun n j s h' hj => by
    obtain ⟨j0, h1⟩ := h'
    have cb := ct_le (f := f) (B := 1) j.toNat (fun i i0 i1 => by
      rcases hf i i0 (by omega) with ⟨x, -⟩ | ⟨x, -⟩ <;> rw [x] <;> decide)
    rw [fX12_guessesOf_4, ck_t (by omega)]
    simp only [Int.reduceAdd]
    rw [if_neg (show ¬ v 848 t ≤ j by omega)]
    obtain ⟨r, e1, e2⟩ := guess_e (v := v) (t := t) (j := j) ht ⟨j0, by omega⟩
    rw [e1, bd_s]
    try dsimp only
    refine ⟨ct_ f (j + 1).toNat, ?_, by omega, rfl⟩
    rw [show (j + 1).toNat = j.toNat + 1 by omega]
    simp only [ct_]
    rw [show ((j.toNat : Nat) : Int) = j by omega]
    rcases hf j j0 hj with ⟨x, y⟩ | ⟨x, y⟩
    · rcases e2 with ⟨z, z2⟩ | ⟨z, z2⟩
      · rw [if_neg (show ¬ r = 0 by omega), lt_d, lt_d, wr_id (by omega), wr_id (by omega), h1, x]
      · exact absurd y z2
    · rcases e2 with ⟨z, z2⟩ | ⟨z, z2⟩
      · exact absurd z2 y
      · rw [if_pos z, lt_d, wr_id (by omega), h1, x, Int.add_zero]) (fun n s _ => by
    rw [fX12_guessesOf_4, ck_t (by omega)]
    simp only [Int.reduceAdd]
    rw [if_pos (show v 848 t ≤ m by omega)]) m.toNat fu_ 0 0 ⟨by decide, rfl⟩ (by omega) (by unfold fu_; omega)
  rw [h1] at e
  exact e
theorem isCopied_e {j i : Int} (ht : 0 ≤ t ∧ t < 8) (hj : 0 ≤ j ∧ j < 34) (hi : 0 ≤ i ∧ i < 34) : ∃ r, fX12_isCopied 814 t j i v = some (r, v) ∧ ((r = 1 ∧ v 849 (34 * t + j) = 2 ∧ i < j ∧ v 858 (34 * t + j) < v 858 (34 * t + i)) ∨ (r = 0 ∧ ¬ (v 849 (34 * t + j) = 2 ∧ i < j ∧ v 858 (34 * t + j) < v 858 (34 * t + i)))) := by
  unfold fX12_isCopied
  simp only [Int.reduceAdd]
  rw [ix_ ht hj, ck_t (by omega)]
  by_cases c : v 849 (34 * t + j) = 2
  · rw [if_pos c]
    by_cases c1 : j ≤ i
    · rw [if_pos c1]
      exact ⟨0, rfl, Or.inr ⟨rfl, fun x => by omega⟩⟩
    · rw [if_neg c1, ix_ ht hi, ck_t (by omega), ck_t (by omega)]
      by_cases c2 : v 858 (34 * t + i) ≤ v 858 (34 * t + j)
      · rw [if_pos c2]
        exact ⟨0, rfl, Or.inr ⟨rfl, fun x => by omega⟩⟩
      · rw [if_neg c2]
        exact ⟨1, rfl, Or.inl ⟨rfl, c, by omega, by omega⟩⟩
  · rw [if_neg c]
    exact ⟨0, rfl, Or.inr ⟨rfl, fun x => c x.1⟩⟩
theorem copied_e {j : Int} (ht : 0 ≤ t ∧ t < 8) (hj : 0 ≤ j ∧ j < 34) : fX12_copiedMany 814 t j v = some (cop_ v t j, v) := by
  unfold fX12_copiedMany
  obtain ⟨s, e, -, h1⟩ := lp_s (σ := Int) (F := fun n i s => fX12_copiedMany_5 n 814 t j s i v) (K := fun s => some (s, v)) (e := j) (I := fun i s => 0 ≤ i ∧ s = if v 849 (34 * t + j) = 2 then ct_ (lt1_ v t j) i.toNat else 0) (fun n i s h' hi => by
    obtain ⟨i0, h1⟩ := h'
    have cb := ct_01 (lt1_01 v t j) i.toNat
    obtain ⟨r, x1, x2⟩ := isCopied_e (v := v) (t := t) (j := j) (i := i) ht hj ⟨i0, by omega⟩
    rw [fX12_copiedMany_5, if_neg (show ¬ j ≤ i by omega), x1, bd_s]
    try dsimp only
    refine ⟨if v 849 (34 * t + j) = 2 then ct_ (lt1_ v t j) (i + 1).toNat else 0, ?_, by omega, rfl⟩
    rw [show (i + 1).toNat = i.toNat + 1 by omega]
    simp only [ct_]
    rw [show ((i.toNat : Nat) : Int) = i by omega]
    by_cases c : v 849 (34 * t + j) = 2
    · rw [if_pos c] at h1 ⊢
      rcases x2 with ⟨y, -, -, c2⟩ | ⟨y, y2⟩
      · rw [if_neg (show ¬ r = 0 by omega), lt_d, lt_d, wr_id (by omega), wr_id (by omega), h1]
        unfold lt1_
        rw [if_pos c2]
      · rw [if_pos y, lt_d, wr_id (by omega), h1]
        unfold lt1_
        rw [if_neg (fun z => y2 ⟨c, hi, z⟩), Int.add_zero]
    · rw [if_neg c] at h1 ⊢
      rcases x2 with ⟨y, c2, -⟩ | ⟨y, y2⟩
      · exact absurd c2 c
      · rw [if_pos y, lt_d, wr_id (by omega), h1]) (fun n s _ => by
    rw [fX12_copiedMany_5, if_pos (Int.le_refl _)]) j.toNat fu_ 0 0 ⟨by decide, by split <;> rfl⟩ (by omega) (by unfold fu_; omega)
  rw [e, h1]
  rfl
theorem cop_b {j : Int} (hj : 0 ≤ j ∧ j < 34) : 0 ≤ cop_ v t j ∧ cop_ v t j ≤ 34 := by
  have cb := ct_01 (lt1_01 v t j) j.toNat
  unfold cop_
  split <;> omega
theorem copiedAll_e (ht : 0 ≤ t ∧ t < 8) (hm : 1 ≤ m ∧ m ≤ 34) (h : v 848 t = m) : fX12_copiedAll 814 t v = some (ct_ (cop_ v t) m.toNat, v) := by
  unfold fX12_copiedAll
  obtain ⟨s, e, -, h1⟩ := lp_s (σ := Int) (F := fun n j s => fX12_copiedAll_4 n 814 t s j v) (K := fun s => some (s, v)) (e := m) (I := fun j s => 0 ≤ j ∧ s = ct_ (cop_ v t) j.toNat) (fun n j s h' hj => by
    obtain ⟨j0, h1⟩ := h'
    have cb := ct_le (f := cop_ v t) (B := 34) j.toNat (fun i i0 i1 => cop_b ⟨i0, by omega⟩)
    have cj := cop_b (v := v) (t := t) (j := j) ⟨j0, by omega⟩
    rw [fX12_copiedAll_4, ck_t (by omega)]
    simp only [Int.reduceAdd]
    rw [if_neg (show ¬ v 848 t ≤ j by omega), copied_e ht ⟨j0, by omega⟩, bd_s, lt_d, lt_d]
    try dsimp only
    rw [wr_id (by omega), wr_id (by omega), h1]
    refine ⟨ct_ (cop_ v t) (j + 1).toNat, ?_, by omega, rfl⟩
    rw [show (j + 1).toNat = j.toNat + 1 by omega]
    simp only [ct_]
    rw [show ((j.toNat : Nat) : Int) = j by omega]) (fun n s _ => by
    rw [fX12_copiedAll_4, ck_t (by omega)]
    simp only [Int.reduceAdd]
    rw [if_pos (show v 848 t ≤ m by omega)]) m.toNat fu_ 0 0 ⟨by decide, rfl⟩ (by omega) (by unfold fu_; omega)
  rw [h1] at e
  exact e
theorem length_e (ht : 0 ≤ t ∧ t < 8) (hm : 1 ≤ m ∧ m ≤ 34) (h : v 848 t = m) (hb : 0 ≤ v 858 (34 * t + (m - 1)) ∧ v 858 (34 * t + (m - 1)) < 300) : fX12_lengthOf 814 t v = some (v 858 (34 * t + (m - 1)) + 1, v) := by
  have hx : wr_ (wr_ (wr_ (34 * t) + v 848 t) - 1) = 34 * t + (m - 1) := by
    rw [h, wr_id (show -2147483648 ≤ 34 * t ∧ 34 * t < 2147483648 by omega), wr_id (show -2147483648 ≤ 34 * t + m ∧ 34 * t + m < 2147483648 by omega), wr_id (by omega)]
    omega
  unfold fX12_lengthOf
  simp only [Int.reduceAdd]
  rw [ck_t ht, ck_t (by rw [hx]; omega), hx, wr_id (by omega)]
end RDS
