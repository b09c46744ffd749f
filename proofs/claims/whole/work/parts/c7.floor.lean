/-! layer 2: floors; cycles taken over -/
def kc_ (v : V_) (t k j : Int) : Int := if v 851 (34 * t + j) = k then 1 else 0
theorem kc_01 (v : V_) (t k j : Int) : 0 ≤ kc_ v t k j ∧ kc_ v t k j ≤ 1 := by unfold kc_; split <;> decide
def fq_ (f u : Int) : Int := wr_ (Int.tdiv (f + u - 1) u)
def fv_ (U kc : Int → Int) (p : Int) : Nat → Int
  | 0 => p
  | k + 1 => if fv_ U kc p k ≤ fq_ (kc k) (U k) then fq_ (kc k) (U k) else fv_ U kc p k
theorem floor_T {vc vr : V_} {t m : Int} (ht : 0 ≤ t ∧ t < 8) (hm : 1 ≤ m ∧ m ≤ 34) (hz : vc (200 + 75 * t) 3 = m) (hK : ∀ j, 0 ≤ j → j < m → kof_ (vc (208 + 75 * t + 2 * j) 0) = vr 851 (34 * t + j)) (hU : ∀ k, 0 ≤ k → k < 4 → vc 193 k = vr 838 (39 + k) ∧ 1 ≤ vr 838 (39 + k) ∧ vr 838 (39 + k) ≤ 4) : ∃ w, fX10_findFloor (200 + 75 * t) 193 vc = some (0, w) ∧ (∀ a k, ¬ (a = 200 + 75 * t ∧ k = 8) → w a k = vc a k) ∧ w (200 + 75 * t) 8 = fv_ (fun k => vr 838 (39 + k)) (fun k => ct_ (kc_ vr t k) m.toNat) (vc (200 + 75 * t) 7) 4 := by
  unfold fX10_findFloor
  rw [lt_d]
  obtain ⟨w, e, -, w1, w2⟩ := lp_s (σ := V_) (F := fun n k w => fX10_findFloor_10 n (200 + 75 * t) 193 k w) (K := fun w => some (0, w)) (e := 4) (I := fun k w => 0 ≤ k ∧ (∀ a q, ¬ (a = 200 + 75 * t ∧ q = 8) → w a q = vc a q) ∧ w (200 + 75 * t) 8 = fv_ (fun k => vr 838 (39 + k)) (fun k => ct_ (kc_ vr t k) m.toNat) (vc (200 + 75 * t) 7) k.toNat) (fun n k w h hk => by
    obtain ⟨k0, w1, w2⟩ := h
    obtain ⟨u1, u2, u3⟩ := hU k k0 hk
    have hsz : w (200 + 75 * t) 3 = m := (w1 _ _ (by omega)).trans hz
    have e193 : w 193 k = vr 838 (39 + k) := (w1 _ _ (by omega)).trans u1
    obtain ⟨s, e, -, s1⟩ := lp_s (σ := Int) (F := fun n' j s => fX10_findFloor_20 (fX10_findFloor_10 n) n' (200 + 75 * t) 193 k s j w) (K := fun s => fX10_findFloor_20 (fX10_findFloor_10 n) 1 (200 + 75 * t) 193 k s m w) (e := m) (I := fun j s => 0 ≤ j ∧ s = ct_ (kc_ vr t k) j.toNat) (fun n' j s h hj => by
      obtain ⟨j0, s1⟩ := h
      have cb := ct_01 (kc_01 vr t k) j.toNat
      rw [fX10_findFloor_20, hsz, if_neg (by omega), ck_t (by omega), kof_e, bd_s, show (200 + 75 * t + 2) + (5 + 2 * j) + 1 = 208 + 75 * t + 2 * j by omega, w1 _ _ (by omega), hK j j0 hj]
      try dsimp only
      unfold fX10_findFloor_52
      refine ⟨ct_ (kc_ vr t k) (j + 1).toNat, ?_, by omega, rfl⟩
      rw [show (j + 1).toNat = j.toNat + 1 by omega]
      simp only [ct_]
      rw [show ((j.toNat : Nat) : Int) = j by omega]
      by_cases c : vr 851 (34 * t + j) = k
      · rw [if_pos c, lt_d, lt_d, wr_id (by omega), wr_id (by omega), s1]
        unfold kc_
        rw [if_pos c]
      · rw [if_neg c, lt_d, lt_d, wr_id (by omega), wr_id (by omega), s1]
        unfold kc_
        rw [if_neg c]) (fun n' s _ => by
      rw [fX10_findFloor_20, fX10_findFloor_20, hsz, if_pos (show m ≤ m by omega), if_pos (show m ≤ m by omega)]) m.toNat fu_ 0 0 ⟨by decide, rfl⟩ (by omega) (by unfold fu_; omega)
    have cb := ct_01 (kc_01 vr t k) m.toNat
    have mx1 : mx_ 1 (vr 838 (39 + k)) = vr 838 (39 + k) := by rw [mx_e, if_pos u2]
    rw [fX10_findFloor_10, if_neg (by omega), e, fX10_findFloor_20, hsz, if_pos (show m ≤ m by omega), ck_t (by omega), lt_d, e193, mx1, ck_t (by omega), lt_d, lt_d, s1, wr_id (show -2147483648 ≤ ct_ (kc_ vr t k) m.toNat + vr 838 (39 + k) ∧ ct_ (kc_ vr t k) m.toNat + vr 838 (39 + k) < 2147483648 by omega), wr_id (show -2147483648 ≤ ct_ (kc_ vr t k) m.toNat + vr 838 (39 + k) - 1 ∧ ct_ (kc_ vr t k) m.toNat + vr 838 (39 + k) - 1 < 2147483648 by omega), wr_id (show -2147483648 ≤ k + 1 ∧ k + 1 < 2147483648 by omega)]
    refine ⟨_, rfl, by omega, fun a q n => (up_n n).trans (w1 a q n), ?_⟩
    rw [up_s ⟨rfl, rfl⟩, mx_e, w2, show (k + 1).toNat = k.toNat + 1 by omega]
    simp only [fv_, fq_]
    rw [show ((k.toNat : Nat) : Int) = k by omega]
    first
      | rfl
      | (split <;> simp_all)) (fun n w _ => by
    rw [fX10_findFloor_10, if_pos (by decide)]) 4 fu_ 0 (up_ vc (200 + 75 * t) 8 (vc (200 + 75 * t) 7)) ⟨by decide, fun a q n => up_n n, up_s ⟨rfl, rfl⟩⟩ (by decide) (by decide)
  exact ⟨w, e, w1, w2⟩
/-- a guess: a line no later than a split ahead of it -/
def gu_ (v : V_) (t j : Int) : Prop := v 849 (34 * t + j) = 0 ∧ ∃ i, 0 ≤ i ∧ i < j ∧ v 849 (34 * t + i) = 2 ∧ v 858 (34 * t + j) ≤ v 858 (34 * t + i)
def lt1_ (v : V_) (t j i : Int) : Int := if v 858 (34 * t + j) < v 858 (34 * t + i) then 1 else 0
theorem lt1_01 (v : V_) (t j i : Int) : 0 ≤ lt1_ v t j i ∧ lt1_ v t j i ≤ 1 := by unfold lt1_; split <;> decide
def cop_ (v : V_) (t j : Int) : Int := if v 849 (34 * t + j) = 2 then ct_ (lt1_ v t j) j.toNat else 0
theorem ct_le {f : Int → Int} {B : Int} : ∀ n : Nat, (∀ i : Int, 0 ≤ i → i < n → 0 ≤ f i ∧ f i ≤ B) → 0 ≤ ct_ f n ∧ ct_ f n ≤ B * n := by
  intro n
  induction n with
  | zero => exact fun _ => ⟨Int.le_refl _, by simp [ct_]⟩
  | succ n ih =>
    intro h
    have a := ih fun i i0 i1 => h i i0 (by omega)
    have b := h n (by omega) (by omega)
    simp only [ct_]
    refine ⟨by omega, ?_⟩
    rw [show ((n + 1 : Nat) : Int) = (n : Int) + 1 by omega, Int.mul_add, Int.mul_one]
    omega
/-- the class takes the list over -/
theorem layAs_T {g vc vr : V_} {t m : Int} (ht : 0 ≤ t ∧ t < 8) (hm : 1 ≤ m ∧ m ≤ 34) (hz : vc (200 + 75 * t) 3 = m) (hI : ∀ j, 0 ≤ j → j < m → IE_ g vc (207 + 75 * t + 2 * j) vr (34 * t + j) ∧ LS_ vr t j (vc (207 + 75 * t + 2 * j) 6)) (hC : ∀ j, 0 ≤ j → j < m → vc 195 j = vr 858 (34 * t + j) ∧ 0 ≤ vr 858 (34 * t + j) ∧ vr 858 (34 * t + j) < 300) (hs : ∀ i j, 0 ≤ i → i < j → j < m → vr 849 (34 * t + i) = 2 → vr 849 (34 * t + j) = 2 → vr 858 (34 * t + i) ≤ vr 858 (34 * t + j)) : ∃ w gs, fX10_layAs (200 + 75 * t) 194 vc = some (0, w) ∧ (∀ a k, ¬ (a = 200 + 75 * t ∧ 9 ≤ k ∧ k ≤ 11) → a ≠ 203 + 75 * t → ¬ (∃ j, 0 ≤ j ∧ j < 34 ∧ a = 207 + 75 * t + 2 * j ∧ (k = 7 ∨ k = 9 ∨ k = 10)) → w a k = vc a k) ∧ (∀ j, 0 ≤ j → j < m → w (207 + 75 * t + 2 * j) 7 = vr 858 (34 * t + j) ∧ w (203 + 75 * t) j = vc 196 j ∧ w (207 + 75 * t + 2 * j) 10 = gs j ∧ ((gs j = 1 ∧ gu_ vr t j) ∨ (gs j = 0 ∧ ¬ gu_ vr t j)) ∧ w (207 + 75 * t + 2 * j) 9 = cop_ vr t j) ∧ w (200 + 75 * t) 9 = vr 858 (34 * t + (m - 1)) + 1 ∧ w (200 + 75 * t) 10 = ct_ gs m.toNat ∧ w (200 + 75 * t) 11 = ct_ (cop_ vr t) m.toNat := by
  unfold fX10_layAs
  obtain ⟨u, e, -, u1, u2⟩ := lp_s (σ := V_) (F := fun n j u => fX10_layAs_2 n (200 + 75 * t) 194 j u) (K := fun u => fX10_layAs_71 (200 + 75 * t) (200 + 75 * t) (vr 858 (34 * t + (m - 1)) + 1) u) (e := m) (I := fun j u => 0 ≤ j ∧ (∀ a k, a ≠ 203 + 75 * t → ¬ (∃ j, 0 ≤ j ∧ j < 34 ∧ a = 207 + 75 * t + 2 * j ∧ k = 7) → u a k = vc a k) ∧ ∀ i, 0 ≤ i → i < j → u (207 + 75 * t + 2 * i) 7 = vr 858 (34 * t + i) ∧ u (203 + 75 * t) i = vc 196 i) (fun n j u h hj => by
    obtain ⟨j0, u1, u2⟩ := h
    have hsz : u (200 + 75 * t) 3 = m := (u1 _ _ (by omega) (fun ⟨i, _, _, a, _⟩ => by omega)).trans hz
    rw [fX10_layAs_2, hsz, if_neg (by omega), ck_t (by omega), ck_t (by omega), lt_d, ck_t (by omega), ck_t (by omega), lt_d, lt_d, wr_id (by omega), show (200 + 75 * t + 2) + (5 + 2 * j) = 207 + 75 * t + 2 * j by omega, show 200 + 75 * t + 3 = 203 + 75 * t by omega]
    dsimp only [Int.reduceAdd]
    refine ⟨_, rfl, by omega, fun a k q q2 => ?_, fun i i0 i1 => ?_⟩
    · rw [up_n (by omega), up_n (fun z => q2 ⟨j, j0, by omega, z.1, z.2⟩)]
      exact u1 a k q q2
    · by_cases c : i = j
      · rw [c, up_n (by omega), up_s ⟨rfl, rfl⟩, up_s ⟨rfl, rfl⟩, up_n (by omega), u1 195 _ (by omega) (fun ⟨i, _, _, a, _⟩ => by omega), u1 196 _ (by omega) (fun ⟨i, _, _, a, _⟩ => by omega)]
        exact ⟨(hC j j0 hj).1, rfl⟩
      · rw [up_n (by omega), up_n (by omega), up_n (by omega), up_n (by omega)]
        exact u2 i i0 (by omega)) (fun n u h => by
    obtain ⟨j0, u1, u2⟩ := h
    have hsz : u (200 + 75 * t) 3 = m := (u1 _ _ (by omega) (fun ⟨i, _, _, a, _⟩ => by omega)).trans hz
    have hc := hC (m - 1) (by omega) (by omega)
    rw [fX10_layAs_2, hsz, if_pos (by omega), if_neg (by omega), wr_id (show -2147483648 ≤ m - 1 ∧ m - 1 < 2147483648 by omega), ck_t (by omega), show (200 + 75 * t + 2) + (5 + 2 * (m - 1)) = 207 + 75 * t + 2 * (m - 1) by omega, (u2 (m - 1) (by omega) (by omega)).1, wr_id (by omega)]) m.toNat fu_ 0 vc ⟨by decide, fun _ _ _ _ => rfl, fun i i0 i1 => by omega⟩ (by omega) (by unfold fu_; omega)
  rw [e]
  unfold fX10_layAs_71
  rw [lt_d, lt_d, lt_d]
  generalize ez : up_ (up_ (up_ u (200 + 75 * t) 9 (vr 858 (34 * t + (m - 1)) + 1)) (200 + 75 * t) 10 0) (200 + 75 * t) 11 0 = z
  have z0 : ∀ a k, ¬ (a = 200 + 75 * t ∧ 9 ≤ k ∧ k ≤ 11) → z a k = u a k := fun a k n => by rw [← ez, up_n (by omega), up_n (by omega), up_n (by omega)]
  have z1 : z (200 + 75 * t) 9 = vr 858 (34 * t + (m - 1)) + 1 ∧ z (200 + 75 * t) 10 = 0 ∧ z (200 + 75 * t) 11 = 0 := by
    rw [← ez]
    simp (disch := omega) only [up_s, up_n, and_self]
  clear ez
  have zf : ∀ a k, ¬ (a = 200 + 75 * t ∧ 9 ≤ k ∧ k ≤ 11) → a ≠ 203 + 75 * t → ¬ (∃ j, 0 ≤ j ∧ j < 34 ∧ a = 207 + 75 * t + 2 * j ∧ k = 7) → z a k = vc a k := fun a k q q2 q3 => (z0 a k q).trans (u1 a k q2 q3)
  have zc : ∀ j, 0 ≤ j → j < m → z (207 + 75 * t + 2 * j) 7 = vr 858 (34 * t + j) := fun j j0 j1 => (z0 _ _ (by omega)).trans (u2 j j0 j1).1
  -- guesses and copies
  obtain ⟨⟨w, gs⟩, e3, -, w1, w2, w3, w4, w5⟩ := lp_s (σ := V_ × (Int → Int)) (F := fun n j s => fX10_layAs_86 n (200 + 75 * t) j s.1) (K := fun s => some (0, s.1)) (e := m) (I := fun j s => 0 ≤ j ∧ (∀ a k, ¬ (a = 200 + 75 * t ∧ 10 ≤ k ∧ k ≤ 11) → ¬ (∃ j, 0 ≤ j ∧ j < 34 ∧ a = 207 + 75 * t + 2 * j ∧ (k = 9 ∨ k = 10)) → s.1 a k = z a k) ∧ (∀ i, 0 ≤ i → i < j → s.1 (207 + 75 * t + 2 * i) 10 = s.2 i ∧ ((s.2 i = 1 ∧ gu_ vr t i) ∨ (s.2 i = 0 ∧ ¬ gu_ vr t i)) ∧ s.1 (207 + 75 * t + 2 * i) 9 = cop_ vr t i) ∧ s.1 (200 + 75 * t) 10 = ct_ s.2 j.toNat ∧ s.1 (200 + 75 * t) 11 = ct_ (cop_ vr t) j.toNat ∧ (∀ i, (s.2 i = 0 ∨ s.2 i = 1))) (fun n j s h hj => by
    obtain ⟨j0, s1, s2, s3, s4, s5⟩ := h
    obtain ⟨hIE, hLS⟩ := hI j j0 hj
    have F : ∀ a k, ¬ (a = 200 + 75 * t ∧ 9 ≤ k ∧ k ≤ 11) → a ≠ 203 + 75 * t → ¬ (∃ j, 0 ≤ j ∧ j < 34 ∧ a = 207 + 75 * t + 2 * j ∧ (k = 7 ∨ k = 9 ∨ k = 10)) → s.1 a k = vc a k := fun a k q q2 q3 => by
      rw [s1 a k (by omega) (fun ⟨i, i0, i1, i2, i3⟩ => q3 ⟨i, i0, i1, i2, by omega⟩)]
      exact zf a k q q2 (fun ⟨i, i0, i1, i2, i3⟩ => q3 ⟨i, i0, i1, i2, by omega⟩)
    have hcy : ∀ i, 0 ≤ i → i < m → s.1 (207 + 75 * t + 2 * i) 7 = vr 858 (34 * t + i) := fun i i0 i1 => (s1 _ _ (by omega) (fun ⟨i, _, _, a, b⟩ => by omega)).trans (zc i i0 i1)
    have hsz : s.1 (200 + 75 * t) 3 = m := (F _ _ (by omega) (by omega) (fun ⟨i, _, _, a, _⟩ => by omega)).trans hz
    have hsort : s.1 (207 + 75 * t + 2 * j) 1 = vr 849 (34 * t + j) := (F _ _ (by omega) (by omega) (fun ⟨i, _, _, a, b⟩ => by omega)).trans hIE.1
    have hgd : s.1 (207 + 75 * t + 2 * j) 6 = vc (207 + 75 * t + 2 * j) 6 := F _ _ (by omega) (by omega) (fun ⟨i, _, _, a, b⟩ => by omega)
    have cb1 := ct_01 (f := s.2) (fun i => by have := s5 i; omega) j.toNat
    have cpb : ∀ i, 0 ≤ i → i < m → 0 ≤ cop_ vr t i ∧ cop_ vr t i ≤ 34 := fun i i0 i1 => by
      unfold cop_
      have := ct_01 (lt1_01 vr t i) i.toNat
      split <;> omega
    have cb2 := ct_le (f := cop_ vr t) (B := 34) j.toNat fun i i0 i1 => cpb i i0 (by omega)
    have cpj := cpb j j0 hj
    -- what is told of the item
    have tell : ∀ b : Int, (b = 0 ∨ b = 1) → ((b = 1 ∧ gu_ vr t j) ∨ (b = 0 ∧ ¬ gu_ vr t j)) → ∃ t', fX10_layAs_140 (fX10_layAs_86 n) (200 + 75 * t) j (207 + 75 * t + 2 * j) (207 + 75 * t + 2 * j) b s.1 = fX10_layAs_86 n (200 + 75 * t) (j + 1) t' ∧ (∀ a k, ¬ (a = 200 + 75 * t ∧ 10 ≤ k ∧ k ≤ 11) → ¬ (∃ j, 0 ≤ j ∧ j < 34 ∧ a = 207 + 75 * t + 2 * j ∧ (k = 9 ∨ k = 10)) → t' a k = z a k) ∧ (∀ i, i ≠ j → t' (207 + 75 * t + 2 * i) 10 = s.1 (207 + 75 * t + 2 * i) 10 ∧ t' (207 + 75 * t + 2 * i) 9 = s.1 (207 + 75 * t + 2 * i) 9) ∧ t' (207 + 75 * t + 2 * j) 10 = b ∧ t' (207 + 75 * t + 2 * j) 9 = cop_ vr t j ∧ t' (200 + 75 * t) 10 = ct_ s.2 j.toNat + b ∧ t' (200 + 75 * t) 11 = ct_ (cop_ vr t) j.toNat + cop_ vr t j := fun b hb hg => by
      unfold fX10_layAs_140
      rw [ck_t hb, lt_d]
      have e160 : (if up_ s.1 (207 + 75 * t + 2 * j) 10 b (207 + 75 * t + 2 * j) 10 = 0 then fX10_layAs_160 (fX10_layAs_86 n) (200 + 75 * t) j (207 + 75 * t + 2 * j) (200 + 75 * t) (up_ s.1 (207 + 75 * t + 2 * j) 10 b (200 + 75 * t) 10) 0 (up_ s.1 (207 + 75 * t + 2 * j) 10 b) else fX10_layAs_160 (fX10_layAs_86 n) (200 + 75 * t) j (207 + 75 * t + 2 * j) (200 + 75 * t) (up_ s.1 (207 + 75 * t + 2 * j) 10 b (200 + 75 * t) 10) 1 (up_ s.1 (207 + 75 * t + 2 * j) 10 b)) = fX10_layAs_160 (fX10_layAs_86 n) (200 + 75 * t) j (207 + 75 * t + 2 * j) (200 + 75 * t) (ct_ s.2 j.toNat) b (up_ s.1 (207 + 75 * t + 2 * j) 10 b) := by
        rw [up_s ⟨rfl, rfl⟩, up_n (show ¬ (200 + 75 * t = 207 + 75 * t + 2 * j ∧ (10 : Int) = 10) by omega), s3]
        rcases hb with hb | hb <;> rw [hb] <;> rfl
      rw [e160]
      clear e160
      unfold fX10_layAs_160
      rw [lt_d, wr_id (show -2147483648 ≤ ct_ s.2 j.toNat + b ∧ ct_ s.2 j.toNat + b < 2147483648 by omega)]
      generalize ep : up_ (up_ s.1 (207 + 75 * t + 2 * j) 10 b) (200 + 75 * t) 10 (ct_ s.2 j.toNat + b) = p
      have p0 : ∀ a k, ¬ (a = 207 + 75 * t + 2 * j ∧ k = 10) → ¬ (a = 200 + 75 * t ∧ k = 10) → p a k = s.1 a k := fun a k n n2 => by rw [← ep, up_n n2, up_n n]
      have p1 : p (207 + 75 * t + 2 * j) 10 = b ∧ p (200 + 75 * t) 10 = ct_ s.2 j.toNat + b := by
        rw [← ep]
        exact ⟨by rw [up_n (by omega), up_s ⟨rfl, rfl⟩], up_s ⟨rfl, rfl⟩⟩
      clear ep
      have fin : ∀ x, x = cop_ vr t j → ∃ t', fX10_layAs_181 (fX10_layAs_86 n) (200 + 75 * t) j (207 + 75 * t + 2 * j) (207 + 75 * t + 2 * j) x p = fX10_layAs_86 n (200 + 75 * t) (j + 1) t' ∧ (∀ a k, ¬ (a = 200 + 75 * t ∧ 10 ≤ k ∧ k ≤ 11) → ¬ (∃ j, 0 ≤ j ∧ j < 34 ∧ a = 207 + 75 * t + 2 * j ∧ (k = 9 ∨ k = 10)) → t' a k = z a k) ∧ (∀ i, i ≠ j → t' (207 + 75 * t + 2 * i) 10 = s.1 (207 + 75 * t + 2 * i) 10 ∧ t' (207 + 75 * t + 2 * i) 9 = s.1 (207 + 75 * t + 2 * i) 9) ∧ t' (207 + 75 * t + 2 * j) 10 = b ∧ t' (207 + 75 * t + 2 * j) 9 = cop_ vr t j ∧ t' (200 + 75 * t) 10 = ct_ s.2 j.toNat + b ∧ t' (200 + 75 * t) 11 = ct_ (cop_ vr t) j.toNat + cop_ vr t j := fun x hx => by
        unfold fX10_layAs_181
        rw [hx, lt_d, lt_d, lt_d, up_s ⟨rfl, rfl⟩, up_n (show ¬ (200 + 75 * t = 207 + 75 * t + 2 * j ∧ (11 : Int) = 9) by omega), p0 (200 + 75 * t) 11 (by omega) (by omega), s4, wr_id (by omega), wr_id (by omega)]
        refine ⟨_, rfl, fun a k q q2 => ?_, fun i hi => ⟨?_, ?_⟩, ?_, ?_, ?_, up_s ⟨rfl, rfl⟩⟩
        · rw [up_n (by omega), up_n (fun z => q2 ⟨j, j0, by omega, z.1, Or.inl z.2⟩), p0 _ _ (fun z => q2 ⟨j, j0, by omega, z.1, Or.inr z.2⟩) (by omega)]
          exact s1 a k q q2
        · rw [up_n (by omega), up_n (by omega), p0 _ _ (by omega) (by omega)]
        · rw [up_n (by omega), up_n (by omega), p0 _ _ (by omega) (by omega)]
        · rw [up_n (by omega), up_n (by omega)]; exact p1.1
        · rw [up_n (by omega), up_s ⟨rfl, rfl⟩]
        · rw [up_n (by omega), up_n (by omega)]; exact p1.2
      have ps : p (207 + 75 * t + 2 * j) 1 = vr 849 (34 * t + j) := (p0 _ _ (by omega) (by omega)).trans hsort
      have pcy : ∀ i, 0 ≤ i → i < m → p (207 + 75 * t + 2 * i) 7 = vr 858 (34 * t + i) := fun i i0 i1 => (p0 _ _ (by omega) (by omega)).trans (hcy i i0 i1)
      unfold fX1_isSplit
      by_cases c2 : vr 849 (34 * t + j) = 2
      · rw [if_pos (ps.trans c2), bd_s, if_neg n10_]
        try dsimp only
        unfold fX10_laterAhead
        obtain ⟨s', e', -, q1⟩ := lp_s (σ := Int) (F := fun n' i x => fX10_laterAhead_4 n' (200 + 75 * t) j x i p) (K := fun x => some (x, p)) (e := j) (I := fun i x => 0 ≤ i ∧ x = ct_ (lt1_ vr t j) i.toNat) (fun n' i x h hi => by
          obtain ⟨i0, hx⟩ := h
          have b := ct_01 (lt1_01 vr t j) i.toNat
          rw [fX10_laterAhead_4, if_neg (by omega), ck_t (by omega), ck_t (by omega), show (200 + 75 * t + 2) + (5 + 2 * i) = 207 + 75 * t + 2 * i by omega, show (200 + 75 * t + 2) + (5 + 2 * j) = 207 + 75 * t + 2 * j by omega]
          unfold fX10_laterAhead_36
          refine ⟨ct_ (lt1_ vr t j) (i + 1).toNat, ?_, by omega, rfl⟩
          rw [show (i + 1).toNat = i.toNat + 1 by omega]
          simp only [ct_]
          rw [show ((i.toNat : Nat) : Int) = i by omega]
          unfold lt1_
          by_cases l : vr 858 (34 * t + j) < vr 858 (34 * t + i)
          · rw [if_neg (by rw [pcy i i0 (by omega), pcy j j0 hj]; omega), lt_d, lt_d, wr_id (by omega), wr_id (by omega), if_pos l, hx]
            rfl
          · rw [if_pos (by rw [pcy i i0 (by omega), pcy j j0 hj]; omega), lt_d, lt_d, wr_id (by omega), wr_id (by omega), if_neg l, hx]
            rfl) (fun n' x _ => by
          rw [fX10_laterAhead_4, if_pos (by omega)]) j.toNat fu_ 0 0 ⟨by decide, rfl⟩ (by omega) (by unfold fu_; omega)
        rw [e', bd_s]
        exact fin _ (by rw [q1]; unfold cop_; rw [if_pos c2])
      · rw [if_neg (by rw [ps]; exact c2), bd_s, if_pos rfl]
        exact fin _ (by unfold cop_; rw [if_neg c2])
    have done : ∀ b : Int, (b = 0 ∨ b = 1) → ((b = 1 ∧ gu_ vr t j) ∨ (b = 0 ∧ ¬ gu_ vr t j)) → ∃ s' : V_ × (Int → Int), fX10_layAs_140 (fX10_layAs_86 n) (200 + 75 * t) j (207 + 75 * t + 2 * j) (207 + 75 * t + 2 * j) b s.1 = fX10_layAs_86 n (200 + 75 * t) (j + 1) s'.1 ∧ 0 ≤ j + 1 ∧ (∀ a k, ¬ (a = 200 + 75 * t ∧ 10 ≤ k ∧ k ≤ 11) → ¬ (∃ j, 0 ≤ j ∧ j < 34 ∧ a = 207 + 75 * t + 2 * j ∧ (k = 9 ∨ k = 10)) → s'.1 a k = z a k) ∧ (∀ i, 0 ≤ i → i < j + 1 → s'.1 (207 + 75 * t + 2 * i) 10 = s'.2 i ∧ ((s'.2 i = 1 ∧ gu_ vr t i) ∨ (s'.2 i = 0 ∧ ¬ gu_ vr t i)) ∧ s'.1 (207 + 75 * t + 2 * i) 9 = cop_ vr t i) ∧ s'.1 (200 + 75 * t) 10 = ct_ s'.2 (j + 1).toNat ∧ s'.1 (200 + 75 * t) 11 = ct_ (cop_ vr t) (j + 1).toNat ∧ (∀ i, (s'.2 i = 0 ∨ s'.2 i = 1)) := fun b hb hg => by
      obtain ⟨t', o1, o2, o3, o4, o5, o6, o7⟩ := tell b hb hg
      refine ⟨(t', fun i => if i = j then b else s.2 i), o1, by omega, o2, fun i i0 i1 => ?_, ?_, ?_, fun i => ?_⟩
      · dsimp only
        by_cases c : i = j
        · rw [if_pos c, c]
          exact ⟨o4, hg, o5⟩
        · rw [if_neg c, (o3 i c).1, (o3 i c).2]
          exact s2 i i0 (by omega)
      · dsimp only
        rw [o6, show (j + 1).toNat = j.toNat + 1 by omega]
        simp only [ct_]
        rw [show ((j.toNat : Nat) : Int) = j by omega, if_pos rfl, ct_congr (f := fun i => if i = j then b else s.2 i) (h := s.2) j.toNat fun i i0 i1 => by rw [if_neg (by omega)]]
      · dsimp only
        rw [o7, show (j + 1).toNat = j.toNat + 1 by omega]
        simp only [ct_]
        rw [show ((j.toNat : Nat) : Int) = j by omega]
      · dsimp only
        split
        · exact hb
        · exact s5 i
    rw [fX10_layAs_86, hsz, if_neg (by omega), ck_t (by omega), lt_d, show (200 + 75 * t + 2) + (5 + 2 * j) = 207 + 75 * t + 2 * j by omega]
    unfold fX10_layAs_139
    by_cases c0 : vr 849 (34 * t + j) = 0
    · rw [if_pos (hsort.trans c0)]
      rcases hLS with ⟨l1, l2⟩ | ⟨l1, l2, l3, l4⟩
      · rw [if_pos (by rw [hgd]; omega)]
        exact done 0 (Or.inl rfl) (Or.inr ⟨rfl, fun ⟨_, i, i0, i1, i2, _⟩ => l2 i i0 i1 i2⟩)
      · rw [if_neg (by rw [hgd]; omega), ck_t (by rw [hgd]; omega), hgd, show (200 + 75 * t + 2) + (5 + 2 * vc (207 + 75 * t + 2 * j) 6) = 207 + 75 * t + 2 * vc (207 + 75 * t + 2 * j) 6 by omega]
        by_cases l : vr 858 (34 * t + vc (207 + 75 * t + 2 * j) 6) < vr 858 (34 * t + j)
        · rw [if_pos (by rw [hcy _ l1 (by omega), hcy j j0 hj]; exact l)]
          refine done 0 (Or.inl rfl) (Or.inr ⟨rfl, fun ⟨_, i, i0, i1, i2, i3⟩ => ?_⟩)
          by_cases e : i = vc (207 + 75 * t + 2 * j) 6
          · rw [e] at i3; omega
          · by_cases lt : i < vc (207 + 75 * t + 2 * j) 6
            · have := hs i _ i0 lt (by omega) i2 l3
              omega
            · exact l4 i (by omega) i1 i2
        · rw [if_neg (by rw [hcy _ l1 (by omega), hcy j j0 hj]; exact l)]
          exact done 1 (Or.inr rfl) (Or.inl ⟨rfl, c0, _, l1, l2, l3, by omega⟩)
    · rw [if_neg (by rw [hsort]; exact c0)]
      exact done 0 (Or.inl rfl) (Or.inr ⟨rfl, fun q => c0 q.1⟩)) (fun n s h => by
    obtain ⟨j0, s1, -⟩ := h
    have hsz : s.1 (200 + 75 * t) 3 = m := by
      rw [s1 _ _ (by omega) (fun ⟨i, _, _, a, _⟩ => by omega), zf _ _ (by omega) (by omega) (fun ⟨i, _, _, a, _⟩ => by omega)]
      exact hz
    rw [fX10_layAs_86, hsz, if_pos (by omega)]) m.toNat fu_ 0 (z, fun _ => 0) ⟨by decide, fun _ _ _ _ => rfl, fun i i0 i1 => by omega, z1.2.1, z1.2.2, fun _ => Or.inl rfl⟩ (by omega) (by unfold fu_; omega)
  dsimp only at e3 w1 w2 w3 w4 w5
  refine ⟨w, gs, e3, fun a k q q2 q3 => ?_, fun j j0 j1 => ⟨?_, ?_, (w2 j j0 j1).1, (w2 j j0 j1).2.1, (w2 j j0 j1).2.2⟩, ?_, w3, w4⟩
  · rw [w1 a k (by omega) (fun ⟨i, i0, i1, i2, i3⟩ => q3 ⟨i, i0, i1, i2, by omega⟩)]
    exact zf a k q q2 (fun ⟨i, i0, i1, i2, i3⟩ => q3 ⟨i, i0, i1, i2, by omega⟩)
  · rw [w1 _ _ (by omega) (fun ⟨i, _, _, a, b⟩ => by omega)]
    exact zc j j0 j1
  · rw [w1 _ _ (by omega) (fun ⟨i, _, _, a, b⟩ => by omega), z0 _ _ (by omega)]
    exact (u2 j j0 j1).2
  · rw [w1 _ _ (by omega) (fun ⟨i, _, _, a, b⟩ => by omega)]
    exact z1.1
