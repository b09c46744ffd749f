/-! layer 2: the split of a cycle, guesses held back, in the reference -/
section SPL
variable {v : V_} {t m c : Int}
theorem splitIn_e (ht : 0 ≤ t ∧ t < 8) (hm : 1 ≤ m ∧ m ≤ 34) (h : v 848 t = m) : ∃ r, fX12_splitIn 814 t c v = some (r, v) ∧ ((0 ≤ r ∧ r < m ∧ v 849 (34 * t + r) = 2 ∧ v 858 (34 * t + r) = c) ∨ (r = -1 ∧ ∀ j, 0 ≤ j → j < m → ¬ (v 849 (34 * t + j) = 2 ∧ v 858 (34 * t + j) = c))) := by
  unfold fX12_splitIn
  rcases lp_x (σ := Unit) (F := fun n i _ => fX12_splitIn_2 n 814 t c i v) (K := fun _ => some (-1, v)) (e := m) (I := fun i _ => 0 ≤ i ∧ ∀ j, 0 ≤ j → j < i → ¬ (v 849 (34 * t + j) = 2 ∧ v 858 (34 * t + j) = c)) (Q := fun out => ∃ r, out = some (r, v) ∧ 0 ≤ r ∧ r < m ∧ v 849 (34 * t + r) = 2 ∧ v 858 (34 * t + r) = c) (fun n i _ hI hi => by
    obtain ⟨i0, hI⟩ := hI
    have nx : ¬ (v 849 (34 * t + i) = 2 ∧ v 858 (34 * t + i) = c) → 0 ≤ i + 1 ∧ ∀ j, 0 ≤ j → j < i + 1 → ¬ (v 849 (34 * t + j) = 2 ∧ v 858 (34 * t + j) = c) := fun x => ⟨by omega, fun j j0 j1 => by
      rcases (by omega : j < i ∨ j = i) with y | y
      · exact hI j j0 y
      · rw [y]; exact x⟩
    rw [fX12_splitIn_2, ck_t ht]
    simp only [Int.reduceAdd]
    rw [if_neg (show ¬ v 848 t ≤ i by omega), ix_ ht ⟨i0, by omega⟩, ck_t (by omega)]
    by_cases q : v 849 (34 * t + i) = 2
    · rw [if_pos q, ck_t (by omega)]
      by_cases q2 : v 858 (34 * t + i) = c
      · rw [if_pos q2]
        exact Or.inr ⟨i, rfl, i0, hi, q, q2⟩
      · rw [if_neg q2, lt_d, wr_id (by omega)]
        exact Or.inl ⟨(), rfl, nx fun x => q2 x.2⟩
    · rw [if_neg q, lt_d, wr_id (by omega)]
      exact Or.inl ⟨(), rfl, nx fun x => q x.1⟩) (fun n _ _ => by
    rw [fX12_splitIn_2, ck_t ht]
    simp only [Int.reduceAdd]
    rw [if_pos (show v 848 t ≤ m by omega)]) m.toNat fu_ 0 () ⟨by decide, fun j j0 j1 => absurd j0 (by omega)⟩ (by omega) (by unfold fu_; omega) with ⟨_, e, -, hI⟩ | ⟨r, e, hI⟩
  · exact ⟨-1, e, Or.inr ⟨rfl, hI⟩⟩
  · exact ⟨r, e, Or.inl hI⟩
theorem ahead_e {j : Int} (ht : 0 ≤ t ∧ t < 8) (hj : 0 ≤ j ∧ j < 34) : ∃ r, fX12_splitAhead 814 t j v = some (r, v) ∧ LS_ v t j r := by
  have key : ∀ (d n : Nat), (d : Int) ≤ j → d < n → (∀ i : Int, (d : Int) ≤ i → i < j → v 849 (34 * t + i) ≠ 2) → ∃ r, fX12_splitAhead_4 n 814 t ((d : Int) - 1) v = some (r, v) ∧ LS_ v t j r := by
    intro d
    induction d with
    | zero =>
      intro n _ hn hh
      obtain ⟨n, rfl⟩ : ∃ m, n = m + 1 := ⟨n - 1, by omega⟩
      rw [fX12_splitAhead_4, if_pos (by decide)]
      exact ⟨-1, rfl, Or.inl ⟨rfl, fun i i0 i1 => hh i (by omega) i1⟩⟩
    | succ d ih =>
      intro n hd hn hh
      obtain ⟨n, rfl⟩ : ∃ m, n = m + 1 := ⟨n - 1, by omega⟩
      rw [show ((d + 1 : Nat) : Int) - 1 = (d : Int) by omega, fX12_splitAhead_4, if_neg (by omega)]
      simp only [Int.reduceAdd]
      rw [ix_ ht ⟨by omega, by omega⟩, ck_t (by omega)]
      by_cases q : v 849 (34 * t + (d : Int)) = 2
      · rw [if_pos q]
        exact ⟨d, rfl, Or.inr ⟨by omega, by omega, q, fun i i0 i1 => hh i (by omega) i1⟩⟩
      · rw [if_neg q, lt_d, wr_id (by omega), show (d : Int) + -1 = (d : Int) - 1 by omega]
        refine ih n (by omega) (by omega) fun i i0 i1 => ?_
        rcases (by omega : i = d ∨ (d : Int) < i) with y | y
        · rw [y]; exact q
        · exact hh i (by omega) i1
  unfold fX12_splitAhead
  rw [lt_d, wr_id (by omega)]
  have := key j.toNat fu_ (by omega) (by unfold fu_; omega) (fun i i0 i1 => by omega)
  rw [show ((j.toNat : Nat) : Int) = j by omega] at this
  exact this
theorem LS_u {j r k : Int} (h : LS_ v t j r) (h2 : LS_ v t j k) : r = k := by
  rcases h with ⟨a, b⟩ | ⟨a, b, c, d⟩
  · rcases h2 with ⟨a', b'⟩ | ⟨a', b', c', d'⟩
    · omega
    · exact absurd c' (b k a' b')
  · rcases h2 with ⟨a', b'⟩ | ⟨a', b', c', d'⟩
    · exact absurd c (b' r a b)
    · rcases (by omega : r < k ∨ r = k ∨ k < r) with w | w | w
      · exact absurd c' (d k w b')
      · exact w
      · exact absurd c (d' r w b)
theorem held_e {k : Int} (ht : 0 ≤ t ∧ t < 8) (hm : 1 ≤ m ∧ m ≤ 34) (h : v 848 t = m) (hk : 0 ≤ k ∧ k < m) : ∃ r, fX12_hasHeld 814 t k v = some (r, v) ∧ ((r = 1 ∧ ∃ j, 0 ≤ j ∧ j < m ∧ v 867 j ≠ 0 ∧ LS_ v t j k) ∨ (r = 0 ∧ ¬ ∃ j, 0 ≤ j ∧ j < m ∧ v 867 j ≠ 0 ∧ LS_ v t j k)) := by
  unfold fX12_hasHeld
  rw [lt_d, wr_id (by omega)]
  rcases lp_x (σ := Unit) (F := fun n i _ => fX12_hasHeld_4 n 814 t k i v) (K := fun _ => some (0, v)) (e := m) (I := fun i _ => k + 1 ≤ i ∧ ∀ j, k < j → j < i → ¬ (v 867 j ≠ 0 ∧ LS_ v t j k)) (Q := fun out => out = some (1, v) ∧ ∃ j, 0 ≤ j ∧ j < m ∧ v 867 j ≠ 0 ∧ LS_ v t j k) (fun n i _ hI hi => by
    obtain ⟨i0, hI⟩ := hI
    have nx : ¬ (v 867 i ≠ 0 ∧ LS_ v t i k) → k + 1 ≤ i + 1 ∧ ∀ j, k < j → j < i + 1 → ¬ (v 867 j ≠ 0 ∧ LS_ v t j k) := fun x => ⟨by omega, fun j j0 j1 => by
      rcases (by omega : j < i ∨ j = i) with y | y
      · exact hI j j0 y
      · rw [y]; exact x⟩
    rw [fX12_hasHeld_4, ck_t ht]
    simp only [Int.reduceAdd]
    rw [if_neg (show ¬ v 848 t ≤ i by omega), ck_t (by omega)]
    by_cases q : v 867 i = 0
    · rw [if_pos q, lt_d, wr_id (by omega)]
      exact Or.inl ⟨(), rfl, nx fun x => x.1 q⟩
    · obtain ⟨r, o1, o2⟩ := ahead_e (v := v) (t := t) (j := i) ht ⟨by omega, by omega⟩
      rw [if_neg q, o1, bd_s]
      try dsimp only
      by_cases q2 : r = k
      · rw [if_pos q2]
        exact Or.inr ⟨rfl, i, by omega, hi, q, by rw [← q2]; exact o2⟩
      · rw [if_neg q2, lt_d, wr_id (by omega)]
        exact Or.inl ⟨(), rfl, nx fun x => q2 (LS_u o2 x.2)⟩) (fun n _ _ => by
    rw [fX12_hasHeld_4, ck_t ht]
    simp only [Int.reduceAdd]
    rw [if_pos (show v 848 t ≤ m by omega)]) (m - (k + 1)).toNat fu_ (k + 1) () ⟨Int.le_refl _, fun j j0 j1 => absurd j0 (by omega)⟩ (by omega) (by unfold fu_; omega) with ⟨_, e, -, hI⟩ | ⟨e, hI⟩
  · refine ⟨0, e, Or.inr ⟨rfl, fun ⟨j, j0, j1, j2, j3⟩ => ?_⟩⟩
    rcases j3 with ⟨z, -⟩ | ⟨z1, z2, z3, z4⟩
    · omega
    · exact hI j z2 j1 ⟨j2, Or.inr ⟨z1, z2, z3, z4⟩⟩
  · exact ⟨1, e, Or.inl ⟨rfl, hI⟩⟩
end SPL
