/-! layer 2: items of a trace, one by one -/
def LS_ (vr : V_) (t j r : Int) : Prop := (r = -1 ∧ ∀ i, 0 ≤ i → i < j → vr 849 (34 * t + i) ≠ 2) ∨ (0 ≤ r ∧ r < j ∧ vr 849 (34 * t + r) = 2 ∧ ∀ i, r < i → i < j → vr 849 (34 * t + i) ≠ 2)
/-- item k of the reference and the class's at y -/
def IE_ (g vc : V_) (y : Int) (vr : V_) (k : Int) : Prop := vc y 1 = vr 849 k ∧ vc y 2 = vr 850 k ∧ (0 ≤ vr 850 k ∧ vr 850 k < g 0 0) ∧ vc (y + 1) 1 = vr 854 k ∧ vc (y + 1) 2 = vl_ (vr 855 k) ∧ vc (y + 1) 3 = vl_ (vr 856 k) ∧ VA_ (vr 855 k) ∧ VA_ (vr 856 k) ∧
  ((vr 849 k = 0 ∧ vc (y + 1) 0 = opc_ (vr 852 k) (vr 853 k) ∧ LI_ (vr 852 k) (vr 853 k) (vr 854 k) (vr 855 k) (vr 856 k) ∧ vr 851 k = kn_ (vr 852 k) (vr 853 k) ∧ vc y 5 = -2) ∨ (vr 849 k = 1 ∧ vc (y + 1) 0 = 6 ∧ vr 852 k = 0 ∧ vr 853 k = 0 ∧ (0 ≤ vr 854 k ∧ vr 854 k < 6) ∧ vr 856 k = 20 ∧ vr 851 k = 0 ∧ vc y 5 = -2) ∨ (vr 849 k = 2 ∧ vc (y + 1) 0 = 8 ∧ vr 852 k = 1 ∧ vr 854 k = -2 ∧ vr 851 k = 3 ∧ vc y 4 = vr 857 k ∧ (0 ≤ vr 857 k ∧ vr 857 k < 2) ∧ vc y 5 = g 10 (2 * vr 850 k + vr 857 k) ∧ 0 ≤ vc y 5 ∧ vc y 5 < g 0 0) ∨ (vr 849 k = 3 ∧ vc (y + 1) 0 = 7 + vr 852 k ∧ (0 ≤ vr 852 k ∧ vr 852 k ≤ 2) ∧ vr 854 k = -2 ∧ vr 851 k = 3 ∧ vc y 5 = -2 ∧ vr 852 k = g 7 (vr 850 k)))
theorem IE_fr {g vc vr wc wr : V_} {y k : Int} (h : IE_ g vc y vr k) (h1 : wc y 1 = vc y 1 ∧ wc y 2 = vc y 2 ∧ wc y 4 = vc y 4 ∧ wc y 5 = vc y 5) (h2 : ∀ j, wc (y + 1) j = vc (y + 1) j) (h3 : ∀ a, 849 ≤ a → a ≤ 857 → wr a k = vr a k) : IE_ g wc y wr k := by
  unfold IE_
  rw [h1.1, h1.2.1, h1.2.2.1, h1.2.2.2, h2, h2, h2, h2, h3 849 (by decide) (by decide), h3 850 (by decide) (by decide), h3 851 (by decide) (by decide), h3 852 (by decide) (by decide), h3 853 (by decide) (by decide), h3 854 (by decide) (by decide), h3 855 (by decide) (by decide), h3 856 (by decide) (by decide), h3 857 (by decide) (by decide)]
  exact h
def ct_ (f : Int → Int) : Nat → Int
  | 0 => 0
  | n + 1 => ct_ f n + f n
theorem ct_congr {f h : Int → Int} : ∀ (n : Nat), (∀ i : Int, 0 ≤ i → i < n → f i = h i) → ct_ f n = ct_ h n := by
  intro n
  induction n with
  | zero => exact fun _ => rfl
  | succ n ih =>
    intro e
    simp only [ct_]
    rw [ih fun i i0 i1 => e i i0 (by omega), e n (by omega) (by omega)]
theorem ct_01 {f : Int → Int} (h : ∀ i, 0 ≤ f i ∧ f i ≤ 1) : ∀ n : Nat, 0 ≤ ct_ f n ∧ ct_ f n ≤ n := by
  intro n
  induction n with
  | zero => exact ⟨Int.le_refl _, Int.le_refl _⟩
  | succ n ih =>
    have := h n
    simp only [ct_]
    omega
def sp_ (vr : V_) (t j : Int) : Int := if vr 849 (34 * t + j) = 2 then 1 else 0
theorem sp_01 (vr : V_) (t j : Int) : 0 ≤ sp_ vr t j ∧ sp_ vr t j ≤ 1 := by unfold sp_; split <;> decide
/-- gathering: trace t at x, m items, q places used -/
def GI_ (g : V_) (L : Int → Int) (t m q : Int) (vc vr : V_) : Prop := (vc (200 + 75 * t) 3 = m ∧ vr 848 t = m ∧ 0 ≤ m ∧ m ≤ q + vr 860 t) ∧ (vc (200 + 75 * t) 5 = vr 860 t ∧ 0 ≤ vr 860 t ∧ vr 860 t ≤ 6) ∧ (∀ r, 0 ≤ r → r < 6 → vc (205 + 75 * t) r = vr 861 r ∧ 0 ≤ vr 861 r ∧ vr 861 r < 12) ∧ (∀ j, 0 ≤ j → j < m → IE_ g vc (207 + 75 * t + 2 * j) vr (34 * t + j) ∧ vc (207 + 75 * t + 2 * j) 8 = 0 ∧ LS_ vr t j (vc (207 + 75 * t + 2 * j) 6) ∧ vr 849 (34 * t + j) ≠ 3) ∧ (LS_ vr t m (vc (200 + 75 * t) 16) ∧ vc (200 + 75 * t) 4 = ct_ (sp_ vr t) m.toNat) ∧ (0 ≤ vc (200 + 75 * t) 17 ∧ vc (200 + 75 * t) 17 < 64) ∧ ∀ r, 0 ≤ r → r < 8 → (bt_ (vc (200 + 75 * t) 17) r = true ↔ ∃ j, 0 ≤ j ∧ j < m ∧ vr 849 (34 * t + j) = 2 ∧ bt_ (L (g 10 (2 * vr 850 (34 * t + j) + vr 857 (34 * t + j)))) r = true)
/-- frames of gathering -/
def Fg1_ (t : Int) (u w : V_) : Prop := ∀ a k, a < 200 + 75 * t ∨ 275 + 75 * t ≤ a ∨ a = 201 + 75 * t ∨ (a = 200 + 75 * t ∧ k = 1) → w a k = u a k
def Fg2_ (t : Int) (u w : V_) : Prop := (∀ a k, ¬ (848 ≤ a ∧ a ≤ 857) → a ≠ 860 → a ≠ 861 → w a k = u a k) ∧ (∀ a k, 849 ≤ a → a ≤ 857 → ¬ (34 * t ≤ k ∧ k < 34 * t + 34) → w a k = u a k) ∧ ∀ k, k ≠ t → w 848 k = u 848 k ∧ w 860 k = u 860 k
theorem Fg1_tr {t : Int} {u w z : V_} (h : Fg1_ t u w) (h2 : Fg1_ t w z) : Fg1_ t u z := fun a k q => (h2 a k q).trans (h a k q)
theorem Fg2_tr {t : Int} {u w z : V_} (h : Fg2_ t u w) (h2 : Fg2_ t w z) : Fg2_ t u z := ⟨fun a k q q2 q3 => (h2.1 a k q q2 q3).trans (h.1 a k q q2 q3), fun a k q q2 q3 => (h2.2.1 a k q q2 q3).trans (h.2.1 a k q q2 q3), fun k q => ⟨(h2.2.2 k q).1.trans (h.2.2 k q).1, (h2.2.2 k q).2.trans (h.2.2 k q).2⟩⟩
theorem cadd_e {v : V_} {t m s b : Int} (ht : 0 ≤ t ∧ t < 8) (hm : v (200 + 75 * t) 3 = m) (h4 : 0 ≤ m ∧ m < 34) : ∃ w, fX10_addItem (200 + 75 * t) s b v = some (207 + 75 * t + 2 * m, w) ∧ w (200 + 75 * t) 3 = m + 1 ∧ w (207 + 75 * t + 2 * m) 1 = s ∧ w (207 + 75 * t + 2 * m) 2 = b ∧ w (207 + 75 * t + 2 * m) 4 = -2 ∧ w (207 + 75 * t + 2 * m) 5 = -2 ∧ w (207 + 75 * t + 2 * m) 6 = v (200 + 75 * t) 16 ∧ w (207 + 75 * t + 2 * m) 8 = 0 ∧ ∀ a k, ¬ (a = 200 + 75 * t ∧ k = 3) → a ≠ 207 + 75 * t + 2 * m → w a k = v a k := by
  unfold fX10_addItem fX10_addItem_19 fX1_begin
  rw [hm, if_neg (by omega), wr_id (by omega), lt_d, up_s ⟨rfl, rfl⟩, wr_id (by omega), ck_t (by omega), lt_d, show (200 + 75 * t + 2) + (5 + 2 * (m + 1 - 1)) = 207 + 75 * t + 2 * m by omega]
  simp only [lt_d, bd_s]
  refine ⟨_, rfl, ?_, ?_, ?_, ?_, ?_, ?_, ?_, fun a k h h2 => ?_⟩
  · simp (disch := omega) only [up_s, up_n]
  · simp (disch := omega) only [up_s, up_n]
  · simp (disch := omega) only [up_s, up_n]
  · simp (disch := omega) only [up_s, up_n]
  · simp (disch := omega) only [up_s, up_n]
  · simp (disch := omega) only [up_s, up_n]
  · simp (disch := omega) only [up_s, up_n]
  · simp (disch := omega) only [up_n]
theorem radd_e {v : V_} {t m s b : Int} (ht : 0 ≤ t ∧ t < 8) (hm : v 848 t = m) (h4 : 0 ≤ m ∧ m < 34) : ∃ w, fX12_adds 814 t s b v = some (34 * t + m, w) ∧ w 848 t = m + 1 ∧ w 849 (34 * t + m) = s ∧ w 850 (34 * t + m) = b ∧ w 852 (34 * t + m) = 0 ∧ w 853 (34 * t + m) = 0 ∧ w 854 (34 * t + m) = -2 ∧ w 855 (34 * t + m) = 20 ∧ w 856 (34 * t + m) = 20 ∧ w 857 (34 * t + m) = -1 ∧ (∀ a k, ¬ (848 ≤ a ∧ a ≤ 857) → w a k = v a k) ∧ (∀ a k, k ≠ 34 * t + m → 849 ≤ a → a ≤ 857 → w a k = v a k) ∧ ∀ k, k ≠ t → w 848 k = v 848 k := by
  unfold fX12_adds
  rw [ck_t ht, show (814 + 34 : Int) = 848 from rfl, hm, wr_id (show -2147483648 ≤ 34 * t ∧ 34 * t < 2147483648 by omega), wr_id (show -2147483648 ≤ 34 * t + m ∧ 34 * t + m < 2147483648 by omega), lt_d]
  simp (disch := omega) only [ck_t, lt_d, Int.reduceAdd, up_n, hm]
  rw [wr_id (by omega)]
  refine ⟨_, rfl, up_s ⟨rfl, rfl⟩, ?_, ?_, ?_, ?_, ?_, ?_, ?_, ?_, fun a k h => ?_, fun a k h h2 h3 => ?_, fun k h => ?_⟩
  · simp (disch := omega) only [up_s, up_n]
  · simp (disch := omega) only [up_s, up_n]
  · simp (disch := omega) only [up_s, up_n]
  · simp (disch := omega) only [up_s, up_n]
  · simp (disch := omega) only [up_s, up_n]
  · simp (disch := omega) only [up_s, up_n]
  · simp (disch := omega) only [up_s, up_n]
  · simp (disch := omega) only [up_s, up_n]
  · simp (disch := omega) only [up_n]
  · simp (disch := omega) only [up_n]
  · simp (disch := omega) only [up_n]
theorem asread_e {v : V_} {t a : Int} (h : VR_ a) (hr : ∀ r, 0 ≤ r → r < 6 → 0 ≤ v (205 + 75 * t) r ∧ v (205 + 75 * t) r < 12) : fX10_asRead (200 + 75 * t) (vl_ a) v = some (vl_ (if a < 6 then v (205 + 75 * t) a else a), v) := by
  unfold fX10_asRead vl_
  unfold VR_ at h
  by_cases c : a < 6
  · have := hr a (by omega) c
    rw [if_pos (show a < 20 by omega), if_neg (by omega), bX_m (show iR_ (-1 - a) by unfold iR_; omega), if_neg (by omega), ck_t (by omega), if_pos c, if_pos (by omega), show -1 - (-1 - a) = a by omega, show 200 + 75 * t + 5 = 205 + 75 * t by omega, bX_m (show iR_ (v (205 + 75 * t) a) by unfold iR_; omega)]
  · rw [if_neg (show ¬ a < 20 by omega), if_pos (by omega), if_neg c, if_neg (by omega)]
theorem readas_e {v : V_} {a : Int} (h : VR_ a) : fX12_readAs 814 a v = some (if a < 6 then v 861 a else a, v) := by
  unfold fX12_readAs
  unfold VR_ at h
  by_cases c : a < 6
  · rw [if_neg (by omega), ck_t (by omega), if_pos c]
    rfl
  · rw [if_pos (by omega), if_neg c]
theorem as_VA {R : Int → Int} {a : Int} (h : VR_ a) (hr : ∀ r, 0 ≤ r → r < 6 → 0 ≤ R r ∧ R r < 12) : VA_ (if a < 6 then R a else a) := by
  unfold VR_ at h
  unfold VA_
  by_cases c : a < 6
  · rw [if_pos c]
    exact Or.inl (hr a (by omega) c)
  · rw [if_neg c]
    omega
theorem tell_e (y o s l r : Int) (v : V_) : ∃ w, fX8_tell y o s l r v = some (0, w) ∧ w y 0 = o ∧ w y 1 = s ∧ w y 2 = l ∧ w y 3 = r ∧ ∀ a k, a ≠ y → w a k = v a k := by
  unfold fX8_tell
  simp only [lt_d]
  refine ⟨_, rfl, ?_, ?_, ?_, ?_, fun a k h => ?_⟩
  · simp (disch := omega) only [up_s, up_n]
  · simp (disch := omega) only [up_s, up_n]
  · simp (disch := omega) only [up_s, up_n]
  · simp (disch := omega) only [up_s, up_n]
  · simp (disch := omega) only [up_n]
/-- whether a split ahead may want a register -/
theorem wanted_e {g v : V_} {L : Int → Int} {t m r : Int} (hw : WF_ g) (hD : D_ v g) (ht : 0 ≤ t ∧ t < 8) (hm : v 848 t = m) (h4 : 0 ≤ m ∧ m ≤ 34) (hr : 0 ≤ r ∧ r < 6) (hL : ∀ b, 0 ≤ b → b < g 0 0 → v 843 b = L b ∧ r6_ (L b)) (hS : ∀ j, 0 ≤ j → j < m → v 849 (34 * t + j) = 2 → (0 ≤ v 850 (34 * t + j) ∧ v 850 (34 * t + j) < g 0 0) ∧ (0 ≤ v 857 (34 * t + j) ∧ v 857 (34 * t + j) < 2) ∧ 0 ≤ g 10 (2 * v 850 (34 * t + j) + v 857 (34 * t + j)) ∧ g 10 (2 * v 850 (34 * t + j) + v 857 (34 * t + j)) < g 0 0) : ∃ z, fX12_isWanted 814 t r v = some (z, v) ∧ ((z = 0 ∧ ¬ ∃ j, 0 ≤ j ∧ j < m ∧ v 849 (34 * t + j) = 2 ∧ bt_ (L (g 10 (2 * v 850 (34 * t + j) + v 857 (34 * t + j)))) r = true) ∨ (z = 1 ∧ ∃ j, 0 ≤ j ∧ j < m ∧ v 849 (34 * t + j) = 2 ∧ bt_ (L (g 10 (2 * v 850 (34 * t + j) + v 857 (34 * t + j)))) r = true)) := by
  have hn := hw.1
  unfold fX12_isWanted
  rw [wr_id (show -2147483648 ≤ 34 * t ∧ 34 * t < 2147483648 by omega), lt_d]
  have key := lp_x (σ := Unit) (α := Option (Int × V_)) (F := fun n i _ => fX12_isWanted_5 n 814 t r (34 * t + i) v) (K := fun _ => some (0, v)) (e := m) (Q := fun o => o = some (1, v) ∧ ∃ j, 0 ≤ j ∧ j < m ∧ v 849 (34 * t + j) = 2 ∧ bt_ (L (g 10 (2 * v 850 (34 * t + j) + v 857 (34 * t + j)))) r = true) (I := fun i _ => 0 ≤ i ∧ ¬ ∃ j, 0 ≤ j ∧ j < i ∧ v 849 (34 * t + j) = 2 ∧ bt_ (L (g 10 (2 * v 850 (34 * t + j) + v 857 (34 * t + j)))) r = true) (fun n i s h hi => by
    obtain ⟨i0, h1⟩ := h
    rw [fX12_isWanted_5, ck_t ht, show (814 + 34 : Int) = 848 from rfl, hm, wr_id (show -2147483648 ≤ 34 * t ∧ 34 * t < 2147483648 by omega), wr_id (show -2147483648 ≤ 34 * t + m ∧ 34 * t + m < 2147483648 by omega), if_neg (by omega), ck_t (by omega), show (814 + 35 : Int) = 849 from rfl, wr_id (show -2147483648 ≤ 34 * t + i + 1 ∧ 34 * t + i + 1 < 2147483648 by omega), show 34 * t + i + 1 = 34 * t + (i + 1) by omega]
    by_cases c : v 849 (34 * t + i) = 2
    · obtain ⟨s1, s2, s3, s4⟩ := hS i i0 hi c
      obtain ⟨l1, l2⟩ := hL _ s3 s4
      unfold r6_ at l2
      rw [if_pos c, ck_t (by omega), ck_t (by omega), show (814 + 36 : Int) = 850 from rfl, show (814 + 43 : Int) = 857 from rfl, wayTo_e hD (by omega) s2, bd_s]
      try dsimp only
      rw [ck_t (by omega), show (814 + 29 : Int) = 843 from rfl]
      have hb : bA_ (sR_ (v 843 (g 10 (2 * v 850 (34 * t + i) + v 857 (34 * t + i)))) r) 1 = if bt_ (L (g 10 (2 * v 850 (34 * t + i) + v 857 (34 * t + i)))) r then 1 else 0 := by rw [l1, bit_e (by omega) (by omega)]
      cases e : bt_ (L (g 10 (2 * v 850 (34 * t + i) + v 857 (34 * t + i)))) r
      · left
        refine ⟨(), by rw [if_neg (by rw [hb, e]; decide), lt_d], by omega, fun q => ?_⟩
        obtain ⟨j, j0, j1, j2, j3⟩ := q
        by_cases d : j = i
        · rw [d, e] at j3
          exact absurd j3 (by decide)
        · exact h1 ⟨j, j0, by omega, j2, j3⟩
      · right
        exact ⟨by rw [if_pos (by rw [hb, e]; rfl)], i, i0, hi, c, e⟩
    · left
      refine ⟨(), by rw [if_neg c, lt_d], by omega, fun q => ?_⟩
      obtain ⟨j, j0, j1, j2, j3⟩ := q
      by_cases d : j = i
      · rw [d] at j2
        exact c j2
      · exact h1 ⟨j, j0, by omega, j2, j3⟩) (fun n s _ => by
    rw [fX12_isWanted_5, ck_t ht, show (814 + 34 : Int) = 848 from rfl, hm, wr_id (show -2147483648 ≤ 34 * t ∧ 34 * t < 2147483648 by omega), wr_id (show -2147483648 ≤ 34 * t + m ∧ 34 * t + m < 2147483648 by omega), if_pos (by omega)]) m.toNat fu_ 0 () ⟨by decide, fun ⟨j, j0, j1, _⟩ => by omega⟩ (by omega) (by unfold fu_; omega)
  rw [Int.add_zero] at key
  rcases key with ⟨_, k1, -, k2⟩ | ⟨k1, k2⟩
  · exact ⟨0, k1, Or.inl ⟨rfl, k2⟩⟩
  · exact ⟨1, k1, Or.inr ⟨rfl, k2⟩⟩
