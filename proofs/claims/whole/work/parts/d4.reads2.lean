/-! layer 2: what the reference reads of a laid trace, on -/
section RDT
variable {g v : V_} {t m : Int}
theorem path_e {P : Int} (ht : 0 ≤ t ∧ t < 8) (hm : 1 ≤ m ∧ m ≤ 34) (h : v 848 t = m) (hb : ∀ j, 0 ≤ j → j < m → 0 ≤ v 859 (34 * t + j) ∧ v 859 (34 * t + j) ≤ 204 ∧ v 859 (34 * t + j) + 1 ≤ P) (hP : ∃ j, 0 ≤ j ∧ j < m ∧ P = v 859 (34 * t + j) + 1) : fX12_pathOf 814 t v = some (P, v) := by
  have p1 := hb 0 (by decide) (by omega)
  have p2 : P ≤ 205 := by
    obtain ⟨j, j0, j1, j2⟩ := hP
    have := hb j j0 j1
    omega
  unfold fX12_pathOf
  obtain ⟨s, e, -, s0, h1, h2⟩ := lp_s (σ := Int) (F := fun n j s => fX12_pathOf_4 n 814 t s j v) (K := fun s => some (wr_ (s + 1), v)) (e := m) (I := fun j s => 0 ≤ j ∧ 0 ≤ s ∧ (∀ i, 0 ≤ i → i < j → v 859 (34 * t + i) ≤ s) ∧ s ≤ P - 1) (fun n j s h' hj => by
    obtain ⟨j0, s0, h1, h2⟩ := h'
    have b := hb j j0 hj
    rw [fX12_pathOf_4, ck_t (by omega)]
    simp only [Int.reduceAdd]
    rw [if_neg (show ¬ v 848 t ≤ j by omega), ix_ ht ⟨j0, by omega⟩, ck_t (by omega), more_e, bd_s, lt_d, wr_id (by omega)]
    refine ⟨if s ≤ v 859 (34 * t + j) then v 859 (34 * t + j) else s, rfl, by omega, ?_, fun i i0 i1 => ?_, ?_⟩
    · split <;> omega
    · rcases (by omega : i < j ∨ i = j) with y | y
      · have := h1 i i0 y
        split <;> omega
      · rw [y]
        split <;> omega
    · split <;> omega) (fun n s _ => by
    rw [fX12_pathOf_4, ck_t (by omega)]
    simp only [Int.reduceAdd]
    rw [if_pos (show v 848 t ≤ m by omega)]) m.toNat fu_ 0 0 ⟨by decide, by decide, fun i i0 i1 => absurd i0 (by omega), by omega⟩ (by omega) (by unfold fu_; omega)
  rw [e, wr_id (by omega)]
  have : s + 1 = P := by
    obtain ⟨j, j0, j1, j2⟩ := hP
    have := h1 j j0 j1
    omega
  rw [this]
theorem floor_e {P : Int} (hg : RG_ g) (hD : D_ v g) (ht : 0 ≤ t ∧ t < 8) (hm : 1 ≤ m ∧ m ≤ 34) (h : v 848 t = m) (hp : fX12_pathOf 814 t v = some (P, v)) : fX12_floorOf 814 t v = some (fv_ (fun k => g 11 (39 + k)) (fun k => ct_ (kc_ v t k) m.toNat) P 4, v) := by
  unfold fX12_floorOf
  rw [hp, bd_s]
  try dsimp only
  obtain ⟨s, e, -, h1⟩ := lp_s (σ := Int) (F := fun n k s => fX12_floorOf_8 n 814 t s k v) (K := fun s => some (s, v)) (e := 4) (I := fun k s => 0 ≤ k ∧ s = fv_ (fun k => g 11 (39 + k)) (fun k => ct_ (kc_ v t k) m.toNat) P k.toNat) (fun n k s h' hk => by
    obtain ⟨k0, h1⟩ := h'
    have u := hg.2.2.2.1 (39 + k) (by omega) (by omega)
    have e38 : v 838 (39 + k) = g 11 (39 + k) := hD.2.2.2.2.2 _ (by omega) (by omega)
    obtain ⟨c, e, -, c1⟩ := lp_s (σ := Int) (F := fun n' j c => fX12_floorOf_19 (fX12_floorOf_8 n) n' 814 t s k c j v) (K := fun c => fX12_floorOf_19 (fX12_floorOf_8 n) 1 814 t s k c m v) (e := m) (I := fun j c => 0 ≤ j ∧ c = ct_ (kc_ v t k) j.toNat) (fun n' j c h' hj => by
      obtain ⟨j0, c1⟩ := h'
      have cb := ct_01 (kc_01 v t k) j.toNat
      rw [fX12_floorOf_19, ck_t (by omega)]
      simp only [Int.reduceAdd]
      rw [if_neg (show ¬ v 848 t ≤ j by omega), ix_ ht ⟨j0, by omega⟩, ck_t (by omega)]
      refine ⟨ct_ (kc_ v t k) (j + 1).toNat, ?_, by omega, rfl⟩
      rw [show (j + 1).toNat = j.toNat + 1 by omega]
      simp only [ct_]
      rw [show ((j.toNat : Nat) : Int) = j by omega]
      by_cases x : v 851 (34 * t + j) = k
      · rw [if_pos x, lt_d, lt_d, wr_id (by omega), wr_id (by omega), c1]
        unfold kc_
        rw [if_pos x]
      · rw [if_neg x, lt_d, wr_id (by omega), c1]
        unfold kc_
        rw [if_neg x, Int.add_zero]) (fun n' c _ => by
      rw [fX12_floorOf_19, ck_t ht]
      simp only [Int.reduceAdd]
      rw [if_pos (show v 848 t ≤ m by omega), fX12_floorOf_19, ck_t ht]
      simp only [Int.reduceAdd]
      rw [if_pos (show v 848 t ≤ m by omega)]) m.toNat fu_ 0 0 ⟨by decide, rfl⟩ (by omega) (by unfold fu_; omega)
    have cb := ct_01 (kc_01 v t k) m.toNat
    have hx : wr_ (39 + k) = 39 + k := wr_id (by omega)
    rw [fX12_floorOf_8, if_neg (by omega), e, fX12_floorOf_19, ck_t (by omega)]
    simp only [Int.reduceAdd]
    rw [if_pos (show v 848 t ≤ m by omega), hx, ck_t (by omega), ck_t (by omega), ck_t (by omega), e38, c1, wr_id (show -2147483648 ≤ ct_ (kc_ v t k) m.toNat + g 11 (39 + k) ∧ ct_ (kc_ v t k) m.toNat + g 11 (39 + k) < 2147483648 by omega), wr_id (show -2147483648 ≤ ct_ (kc_ v t k) m.toNat + g 11 (39 + k) - 1 ∧ ct_ (kc_ v t k) m.toNat + g 11 (39 + k) - 1 < 2147483648 by omega), more_e, bd_s, lt_d, wr_id (show -2147483648 ≤ k + 1 ∧ k + 1 < 2147483648 by omega)]
    refine ⟨_, rfl, by omega, ?_⟩
    rw [show (k + 1).toNat = k.toNat + 1 by omega]
    simp only [fv_, fq_]
    rw [show ((k.toNat : Nat) : Int) = k by omega, ← h1]
    try rfl) (fun n s _ => by
    rw [fX12_floorOf_8, if_pos (by decide)]) 4 fu_ 0 P ⟨by decide, rfl⟩ (by decide) (by decide)
  rw [h1] at e
  exact e
/-- all that is read of a trace alone, of a plan -/
theorem trc_e {L : Int → Int} {vc : V_} (hg : RG_ g) (hD : D_ v g) (ht : 0 ≤ t ∧ t < 8) (h : PT_ g L t m vc v) : fX12_splitsOf 814 t v = some (vc (200 + 75 * t) 4, v) ∧ fX12_plainOf 814 t v = some (vc (200 + 75 * t) 6, v) ∧ fX12_guessesOf 814 t v = some (vc (200 + 75 * t) 10, v) ∧ fX12_copiedAll 814 t v = some (vc (200 + 75 * t) 11, v) ∧ fX12_lengthOf 814 t v = some (vc (200 + 75 * t) 9, v) ∧ fX12_pathOf 814 t v = some (vc (200 + 75 * t) 7, v) ∧ fX12_floorOf 814 t v = some (vc (200 + 75 * t) 8, v) := by
  obtain ⟨⟨⟨a1, a2, a3, a4⟩, a5⟩, a6, ⟨a7, a8⟩, a9, ⟨b1, b2⟩, b3, ⟨b4, b5, b6⟩, ⟨b7, b8⟩, ⟨b9, c1, c2⟩, c3⟩ := h
  have hP := path_e ht ⟨a3, a4⟩ a2 (P := vc (200 + 75 * t) 7) (fun j j0 j1 => (b1 j j0 j1).2) b2
  refine ⟨?_, ?_, ?_, ?_, ?_, hP, ?_⟩
  · rw [splits_e ht ⟨a3, a4⟩ a2, a7]
  · rw [plain_e hg hD ht ⟨a3, a4⟩ a2 (fun j j0 j1 => (IE_kind (a6 j j0 j1).1).2), a8]
  · rw [guesses_e (f := fun j => vc (207 + 75 * t + 2 * j) 10) ht ⟨a3, a4⟩ a2 (fun j j0 j1 => (b9 j j0 j1).1), c1]
  · rw [copiedAll_e ht ⟨a3, a4⟩ a2, c2]
  · rw [length_e ht ⟨a3, a4⟩ a2 (b4 (m - 1) (by omega) (by omega)).2, b6]
  · rw [floor_e hg hD ht ⟨a3, a4⟩ a2 hP, b3]
end RDT
