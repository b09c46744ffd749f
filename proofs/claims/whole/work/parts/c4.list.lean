/-! layer 2: the list, one choice and one laying in both -/
def kof_ (o : Int) : Int := if o = 2 then 1 else if o = 3 then 1 else if o = 4 then 2 else if o = 5 then 2 else if o = 7 then 3 else if o = 8 then 3 else if o = 9 then 3 else 0
theorem kof_e (y : Int) (v : V_) : fX8_kindOf y v = some (kof_ (v y 0), v) := by
  unfold fX8_kindOf kof_
  split
  · rfl
  · split
    · rfl
    · split
      · rfl
      · split
        · rfl
        · split
          · rfl
          · split
            · rfl
            · split <;> rfl
theorem ct_up {f h : Int → Int} {i : Int} (h0 : 0 ≤ i) (he : ∀ k, k ≠ i → h k = f k) (h1 : h i = f i - 1) : ∀ n : Nat, ct_ h n = if i < n then ct_ f n - 1 else ct_ f n := by
  intro n
  induction n with
  | zero => rw [if_neg (by omega)]; rfl
  | succ n ih =>
    simp only [ct_]
    rw [ih]
    by_cases c : i = n
    · rw [if_neg (by omega), if_pos (by omega), ← c, h1]
      omega
    · rw [he n (fun q => c q.symm)]
      by_cases d : i < n
      · rw [if_pos d, if_pos (by omega)]
        omega
      · rw [if_neg d, if_neg (by omega)]
theorem ct_0 {f : Int → Int} (h : ∀ i, 0 ≤ f i) : ∀ n : Nat, 0 ≤ ct_ f n ∧ (ct_ f n = 0 ↔ ∀ i : Int, 0 ≤ i → i < n → f i = 0) := by
  intro n
  induction n with
  | zero => exact ⟨Int.le_refl _, ⟨fun _ i i0 i1 => by omega, fun _ => rfl⟩⟩
  | succ n ih =>
    have := h n
    simp only [ct_]
    refine ⟨by omega, ⟨fun e i i0 i1 => ?_, fun e => ?_⟩⟩
    · by_cases c : i = n
      · rw [c]; omega
      · exact (ih.2.mp (by omega)) i i0 (by omega)
    · have a := ih.2.mpr fun i i0 i1 => e i i0 (by omega)
      have b := e n (by omega) (by omega)
      omega
def wt_ (v0 u : V_) (t j i : Int) : Int := if 0 ≤ v0 862 (34 * i + j) ∧ u 858 (34 * t + i) = -1 then 1 else 0
def nl1_ (u : V_) (t j : Int) : Int := if u 858 (34 * t + j) = -1 then 1 else 0
/-- what both have while a trace is laid: cycle c, d items laid -/
def LY_ (t m c d : Int) (c0 v0 uc u : V_) : Prop := (∀ a k, ¬ (a = 194 ∧ k = 5) → ¬ (195 ≤ a ∧ a ≤ 199) → uc a k = c0 a k) ∧ (∀ a k, a ≠ 858 → a ≠ 863 → u a k = v0 a k) ∧ (∀ k, ¬ (34 * t ≤ k ∧ k < 34 * t + 34) → u 858 k = v0 858 k) ∧ (uc 194 5 = d ∧ 0 ≤ d ∧ d ≤ m) ∧ (∀ j, 0 ≤ j → j < m → uc 195 j = u 858 (34 * t + j) ∧ -1 ≤ u 858 (34 * t + j) ∧ u 858 (34 * t + j) ≤ c) ∧ (∀ j, 0 ≤ j → j < m → uc 198 j = ct_ (wt_ v0 u t j) j.toNat) ∧ (∀ j, 0 ≤ j → j < m → (0 ≤ uc 197 j ∧ uc 197 j ≤ 100000) ∧ (∀ i, 0 ≤ i → i < j → 0 ≤ v0 862 (34 * i + j) → 0 ≤ u 858 (34 * t + i) → u 858 (34 * t + i) + v0 862 (34 * i + j) ≤ uc 197 j) ∧ (uc 197 j = 0 ∨ ∃ i, 0 ≤ i ∧ i < j ∧ 0 ≤ v0 862 (34 * i + j) ∧ 0 ≤ u 858 (34 * t + i) ∧ uc 197 j = u 858 (34 * t + i) + v0 862 (34 * i + j))) ∧ (∀ k, 0 ≤ k → k < 4 → uc 199 k + u 863 k = v0 838 (39 + k) ∧ 0 ≤ u 863 k ∧ u 863 k ≤ d) ∧ (∀ i j, 0 ≤ i → i < j → j < m → 0 ≤ v0 862 (34 * i + j) → 0 ≤ u 858 (34 * t + j) → 0 ≤ u 858 (34 * t + i) ∧ u 858 (34 * t + i) + v0 862 (34 * i + j) ≤ u 858 (34 * t + j)) ∧ ((∀ q, 0 ≤ q → q < d → (0 ≤ uc 196 q ∧ uc 196 q < m) ∧ 0 ≤ u 858 (34 * t + uc 196 q) ∧ ∀ q', 0 ≤ q' → q' < q → u 858 (34 * t + uc 196 q') ≤ u 858 (34 * t + uc 196 q) ∧ uc 196 q' ≠ uc 196 q) ∧ (∀ j, 0 ≤ j → j < m → 0 ≤ u 858 (34 * t + j) → ∃ q, 0 ≤ q ∧ q < d ∧ uc 196 q = j)) ∧ ct_ (nl1_ u t) m.toNat + d = m
/-- what is given -/
def LG_ (t m : Int) (c0 v0 : V_) : Prop := (0 ≤ t ∧ t < 8) ∧ (1 ≤ m ∧ m ≤ 34) ∧ (c0 (200 + 75 * t) 3 = m ∧ v0 848 t = m) ∧ (∀ i j, 0 ≤ i → i < j → j < m → c0 (204 + 75 * t) (34 * i + j) = v0 862 (34 * i + j) ∧ -2 ≤ v0 862 (34 * i + j) ∧ v0 862 (34 * i + j) ≤ 6) ∧ (∀ j, 0 ≤ j → j < m → c0 (207 + 75 * t + 2 * j) 8 = v0 859 (34 * t + j) ∧ kof_ (c0 (208 + 75 * t + 2 * j) 0) = v0 851 (34 * t + j) ∧ 0 ≤ v0 851 (34 * t + j) ∧ v0 851 (34 * t + j) < 4) ∧ ∀ k, 0 ≤ k → k < 4 → c0 193 k = v0 838 (39 + k) ∧ 1 ≤ v0 838 (39 + k) ∧ v0 838 (39 + k) ≤ 4
def Rd_ (t c : Int) (v0 u : V_) (j : Int) : Prop := u 858 (34 * t + j) = -1 ∧ (∀ i, 0 ≤ i → i < j → 0 ≤ v0 862 (34 * i + j) → 0 ≤ u 858 (34 * t + i) ∧ u 858 (34 * t + i) + v0 862 (34 * i + j) ≤ c) ∧ u 863 (v0 851 (34 * t + j)) < v0 838 (39 + v0 851 (34 * t + j))
section LAY
variable {t m c d : Int} {c0 v0 uc u : V_}
theorem can_e (hG : LG_ t m c0 v0) (h : LY_ t m c d c0 v0 uc u) (hc : 0 ≤ c ∧ c ≤ 1000) {j : Int} (hj : 0 ≤ j ∧ j < m) : ∃ r, fX12_canBeLaid 814 t j c u = some (r, u) ∧ ((r = 1 ∧ Rd_ t c v0 u j) ∨ (r = 0 ∧ ¬ Rd_ t c v0 u j)) := by
  obtain ⟨ht, hm, -, hN, hK, hU⟩ := hG
  obtain ⟨-, y2, -, -, y5, -, -, y8, -⟩ := h
  obtain ⟨-, -, k1, k2⟩ := hK j hj.1 hj.2
  obtain ⟨-, cy1, cy2⟩ := y5 j hj.1 hj.2
  unfold fX12_canBeLaid Rd_
  rw [wr_id (show -2147483648 ≤ 34 * t ∧ 34 * t < 2147483648 by omega), wr_id (show -2147483648 ≤ 34 * t + j ∧ 34 * t + j < 2147483648 by omega), lt_d, ck_t (by omega), show (814 + 44 : Int) = 858 from rfl]
  by_cases c1 : 0 ≤ u 858 (34 * t + j)
  · rw [if_pos c1]
    exact ⟨0, rfl, Or.inr ⟨rfl, fun q => by omega⟩⟩
  · have e851 : u (814 + 37) (34 * t + j) = v0 851 (34 * t + j) := y2 _ _ (by decide) (by decide)
    rw [if_neg c1, ck_t (by omega), e851, ck_t (by omega), ck_t (by omega), wr_id (show -2147483648 ≤ 39 + v0 851 (34 * t + j) ∧ 39 + v0 851 (34 * t + j) < 2147483648 by omega), ck_t (by omega)]
    have e838 : u (814 + 24) (39 + v0 851 (34 * t + j)) = v0 838 (39 + v0 851 (34 * t + j)) := y2 _ _ (by decide) (by decide)
    by_cases c2 : u 863 (v0 851 (34 * t + j)) < v0 838 (39 + v0 851 (34 * t + j))
    · rw [if_pos (show u (814 + 49) (v0 851 (34 * t + j)) < u (814 + 24) (39 + v0 851 (34 * t + j)) by rw [e838]; exact c2)]
      have key := lp_x (σ := Unit) (α := Option (Int × V_)) (F := fun n i _ => fX12_canBeLaid_53 n 814 t j c i u) (K := fun _ => some (1, u)) (e := j) (Q := fun o => o = some (0, u) ∧ ∃ i, 0 ≤ i ∧ i < j ∧ 0 ≤ v0 862 (34 * i + j) ∧ ¬ (0 ≤ u 858 (34 * t + i) ∧ u 858 (34 * t + i) + v0 862 (34 * i + j) ≤ c)) (I := fun i _ => 0 ≤ i ∧ ∀ k, 0 ≤ k → k < i → 0 ≤ v0 862 (34 * k + j) → 0 ≤ u 858 (34 * t + k) ∧ u 858 (34 * t + k) + v0 862 (34 * k + j) ≤ c) (fun n i s h hi => by
        obtain ⟨i0, h1⟩ := h
        have n6 := hN i j i0 hi hj.2
        obtain ⟨-, q1, q2⟩ := y5 i i0 (by omega)
        have e862 : u (814 + 48) (34 * i + j) = v0 862 (34 * i + j) := y2 _ _ (by decide) (by decide)
        rw [fX12_canBeLaid_53, if_neg (by omega), wr_id (show -2147483648 ≤ 34 * i ∧ 34 * i < 2147483648 by omega), wr_id (show -2147483648 ≤ 34 * i + j ∧ 34 * i + j < 2147483648 by omega), ck_t (by omega)]
        have go : (0 ≤ v0 862 (34 * i + j) → 0 ≤ u 858 (34 * t + i) ∧ u 858 (34 * t + i) + v0 862 (34 * i + j) ≤ c) → 0 ≤ i + 1 ∧ ∀ k, 0 ≤ k → k < i + 1 → 0 ≤ v0 862 (34 * k + j) → 0 ≤ u 858 (34 * t + k) ∧ u 858 (34 * t + k) + v0 862 (34 * k + j) ≤ c := fun hp => ⟨by omega, fun k k0 k1 kn => by
          by_cases e : k = i
          · rw [e] at kn ⊢; exact hp kn
          · exact h1 k k0 (by omega) kn⟩
        by_cases c3 : v0 862 (34 * i + j) < 0
        · left
          exact ⟨(), by rw [if_pos (by rw [e862]; exact c3), lt_d, wr_id (by omega)], go fun q => by omega⟩
        · rw [if_neg (by rw [e862]; exact c3), wr_id (show -2147483648 ≤ 34 * t ∧ 34 * t < 2147483648 by omega), wr_id (show -2147483648 ≤ 34 * t + i ∧ 34 * t + i < 2147483648 by omega), ck_t (by omega), show (814 + 44 : Int) = 858 from rfl]
          by_cases c4 : u 858 (34 * t + i) < 0
          · right
            rw [if_pos c4]
            exact ⟨rfl, i, i0, hi, by omega, fun q => by omega⟩
          · rw [if_neg c4, ck_t (by omega), ck_t (by omega), e862, wr_id (show -2147483648 ≤ u 858 (34 * t + i) + v0 862 (34 * i + j) ∧ u 858 (34 * t + i) + v0 862 (34 * i + j) < 2147483648 by omega)]
            by_cases c5 : u 858 (34 * t + i) + v0 862 (34 * i + j) ≤ c
            · left
              exact ⟨(), by rw [if_pos c5, lt_d, wr_id (by omega)], go fun q => ⟨by omega, c5⟩⟩
            · right
              rw [if_neg c5]
              exact ⟨rfl, i, i0, hi, by omega, fun q => c5 q.2⟩) (fun n s _ => by
        rw [fX12_canBeLaid_53, if_pos (by omega)]) j.toNat fu_ 0 () ⟨by decide, fun k k0 k1 => by omega⟩ (by omega) (by unfold fu_; omega)
      rcases key with ⟨_, k1, -, k2⟩ | ⟨k1, i, i0, i1, i2, i3⟩
      · exact ⟨1, k1, Or.inl ⟨rfl, by omega, k2, c2⟩⟩
      · exact ⟨0, k1, Or.inr ⟨rfl, fun q => i3 (q.2.1 i i0 i1 i2)⟩⟩
    · rw [if_neg (show ¬ u (814 + 49) (v0 851 (34 * t + j)) < u (814 + 24) (39 + v0 851 (34 * t + j)) by rw [e838]; exact c2)]
      exact ⟨0, rfl, Or.inr ⟨rfl, fun q => c2 q.2.2⟩⟩
theorem wt_01 (v0 u : V_) (t j i : Int) : 0 ≤ wt_ v0 u t j i := by unfold wt_; split <;> decide
/-- the class knows the same -/
theorem ready_I (hG : LG_ t m c0 v0) (h : LY_ t m c d c0 v0 uc u) {j : Int} (hj : 0 ≤ j ∧ j < m) (hc : 0 ≤ c) : (uc 195 j = -1 ∧ uc 198 j = 0 ∧ uc 197 j ≤ c ∧ 0 < uc 199 (v0 851 (34 * t + j))) ↔ Rd_ t c v0 u j := by
  obtain ⟨ht, hm, -, hN, hK, hU⟩ := hG
  obtain ⟨-, y2, -, -, y5, y6, y7, y8, -⟩ := h
  obtain ⟨-, -, k1, k2⟩ := hK j hj.1 hj.2
  obtain ⟨cy0, cy1, cy2⟩ := y5 j hj.1 hj.2
  obtain ⟨z1, z2, z3⟩ := y7 j hj.1 hj.2
  obtain ⟨f1, f2, f3⟩ := y8 _ k1 k2
  have e6 := y6 j hj.1 hj.2
  have w0 := (ct_0 (wt_01 v0 u t j) j.toNat).2
  unfold Rd_
  constructor
  · rintro ⟨a1, a2, a3, a4⟩
    refine ⟨by omega, fun i i0 i1 hn => ?_, by omega⟩
    have wz := w0.mp (e6.symm.trans a2) i i0 (by omega)
    unfold wt_ at wz
    have hne : u 858 (34 * t + i) ≠ -1 := fun q => by
      rw [if_pos ⟨hn, q⟩] at wz
      exact absurd wz (by decide)
    have := y5 i i0 (by omega)
    have h0 : 0 ≤ u 858 (34 * t + i) := by omega
    have := z2 i i0 i1 hn h0
    exact ⟨h0, by omega⟩
  · rintro ⟨a1, a2, a3⟩
    refine ⟨by omega, ?_, ?_, by omega⟩
    · rw [e6]
      refine w0.mpr fun i i0 i1 => ?_
      unfold wt_
      by_cases q : 0 ≤ v0 862 (34 * i + j) ∧ u 858 (34 * t + i) = -1
      · have := a2 i i0 (by omega) q.1
        omega
      · rw [if_neg q]
    · rcases z3 with z3 | ⟨i, i0, i1, i2, i3, i4⟩
      · omega
      · have := a2 i i0 i1 i2
        omega
theorem choose_T (hG : LG_ t m c0 v0) (h : LY_ t m c d c0 v0 uc u) (hc : 0 ≤ c ∧ c ≤ 1000) : ∃ r, fX2_choose 194 (200 + 75 * t) c uc = some (r, uc) ∧ fX12_nextLaid 814 t c u = some (r, u) ∧ ((r = -1 ∧ ∀ j, 0 ≤ j → j < m → ¬ Rd_ t c v0 u j) ∨ (0 ≤ r ∧ r < m ∧ Rd_ t c v0 u r)) := by
  obtain ⟨ht, hm, hz, hN, hK, hU⟩ := id hG
  obtain ⟨y1, y2, -⟩ := id h
  have hsz : uc (200 + 75 * t) 3 = m := (y1 _ _ (by omega) (by omega)).trans hz.1
  have hsz2 : u 848 t = m := (y2 _ _ (by decide) (by decide)).trans hz.2
  have go : ∀ (n : Nat) (k : Nat) (j r : Int), 0 ≤ j → m = j + n → n < k → ((r = -1 ∧ ∀ i, 0 ≤ i → i < j → ¬ Rd_ t c v0 u i) ∨ (0 ≤ r ∧ r < j ∧ Rd_ t c v0 u r)) → ∃ r', fX2_choose_5 k 194 (200 + 75 * t) c r j uc = some (r', uc) ∧ fX12_nextLaid_5 k 814 t c r j u = some (r', u) ∧ ((r' = -1 ∧ ∀ j, 0 ≤ j → j < m → ¬ Rd_ t c v0 u j) ∨ (0 ≤ r' ∧ r' < m ∧ Rd_ t c v0 u r')) := by
    intro n
    induction n with
    | zero =>
      intro k j r j0 hj hk hr
      obtain ⟨k, rfl⟩ : ∃ l, k = l + 1 := ⟨k - 1, by omega⟩
      refine ⟨r, by rw [fX2_choose_5, hsz, if_pos (by omega)], ?_, ?_⟩
      · rw [fX12_nextLaid_5, ck_t ht, show (814 + 34 : Int) = 848 from rfl, hsz2, if_pos (by omega)]
      · rw [show m = j by omega]; exact hr
    | succ n ih =>
      intro k j r j0 hj hk hr
      obtain ⟨k, rfl⟩ : ∃ l, k = l + 1 := ⟨k - 1, by omega⟩
      have hjm : 0 ≤ j ∧ j < m := by omega
      obtain ⟨rc, e1, e2⟩ := can_e hG h hc hjm
      have rdy := ready_I hG h hjm hc.1
      obtain ⟨hh, kk, k1, k2⟩ := hK j hjm.1 hjm.2
      have ekof : ∀ w : V_, (∀ a q, w a q = uc a q) → kof_ (w (208 + 75 * t + 2 * j) 0) = v0 851 (34 * t + j) := fun w hw => by rw [hw, y1 _ _ (by omega) (by omega)]; exact kk
      have skip : ¬ Rd_ t c v0 u j → fX2_choose_5 (k + 1) 194 (200 + 75 * t) c r j uc = fX2_choose_5 k 194 (200 + 75 * t) c r (j + 1) uc := fun hno => by
        have hno' : ¬ (uc 195 j = -1 ∧ uc 198 j = 0 ∧ uc 197 j ≤ c ∧ 0 < uc 199 (v0 851 (34 * t + j))) := fun q => hno (rdy.mp q)
        rw [fX2_choose_5, hsz, if_neg (by omega), ck_t (by omega)]
        unfold fX2_choose_50 fX2_choose_51
        dsimp only [Int.reduceAdd]
        by_cases c1 : uc 195 j = -1
        · rw [if_pos c1, ck_t (by omega)]
          by_cases c2 : uc 198 j = 0
          · rw [if_pos c2, ck_t (by omega)]
            by_cases c3 : uc 197 j ≤ c
            · have c4 : ¬ 0 < uc 199 (v0 851 (34 * t + j)) := fun q => hno' ⟨c1, c2, c3, q⟩
              rw [if_neg (by omega), if_neg n10_, ck_t (by omega), show (200 + 75 * t + 2) + (5 + 2 * j) + 1 = 208 + 75 * t + 2 * j by omega, kof_e, bd_s, ekof uc (fun _ _ => rfl)]
              try dsimp only
              rw [ck_t (by omega), if_pos (by omega), lt_d, wr_id (by omega)]
            · rw [if_pos (by omega), if_pos rfl, lt_d, wr_id (by omega)]
          · rw [if_neg c2, if_pos rfl, lt_d, wr_id (by omega)]
        · rw [if_neg c1, if_pos rfl, lt_d, wr_id (by omega)]
      have keep : (r = -1 ∧ ∀ i, 0 ≤ i → i < j → ¬ Rd_ t c v0 u i) ∨ (0 ≤ r ∧ r < j ∧ Rd_ t c v0 u r) → (¬ Rd_ t c v0 u j ∨ r ≠ -1) → (r = -1 ∧ ∀ i, 0 ≤ i → i < j + 1 → ¬ Rd_ t c v0 u i) ∨ (0 ≤ r ∧ r < j + 1 ∧ Rd_ t c v0 u r) := fun a b => by
        rcases a with ⟨a1, a2⟩ | ⟨a1, a2, a3⟩
        · refine Or.inl ⟨a1, fun i i0 i1 => ?_⟩
          by_cases e : i = j
          · rw [e]
            rcases b with b | b
            · exact b
            · exact absurd a1 b
          · exact a2 i i0 (by omega)
        · exact Or.inr ⟨a1, by omega, a3⟩
      rcases e2 with ⟨e2, e3⟩ | ⟨e2, e3⟩
      · obtain ⟨c1, c2, c3, c4⟩ := rdy.mpr e3
        rw [fX2_choose_5, hsz, if_neg (by omega), ck_t (by omega), fX12_nextLaid_5, ck_t ht, show (814 + 34 : Int) = 848 from rfl, hsz2, if_neg (show ¬ m ≤ j by omega), e1, bd_s]
        unfold fX2_choose_51 fX2_choose_106 fX12_nextLaid_57
        dsimp only [Int.reduceAdd]
        rw [if_pos c1, ck_t (by omega), if_pos c2, ck_t (by omega), if_neg (show ¬ c < uc 197 j by omega), if_neg n10_, ck_t (by omega), show (200 + 75 * t + 2) + (5 + 2 * j) + 1 = 208 + 75 * t + 2 * j by omega, kof_e, bd_s, ekof uc (fun _ _ => rfl), if_neg (show ¬ rc = 0 by omega)]
        try dsimp only
        rw [ck_t (by omega), if_neg (show ¬ uc 199 (v0 851 (34 * t + j)) ≤ 0 by omega)]
        by_cases c5 : r = -1
        · rw [if_pos c5, if_pos (show r < 0 by omega), lt_d, lt_d, wr_id (by omega)]
          exact ih k (j + 1) j (by omega) (by omega) (by omega) (Or.inr ⟨j0, by omega, e3⟩)
        · have hr' : 0 ≤ r ∧ r < j := by omega
          obtain ⟨hh2, -, -, -⟩ := hK r hr'.1 (by omega)
          have q1 : uc ((200 + 75 * t + 2) + (5 + 2 * j)) 8 = v0 859 (34 * t + j) := by rw [show (200 + 75 * t + 2) + (5 + 2 * j) = 207 + 75 * t + 2 * j by omega, y1 _ _ (by omega) (by omega)]; exact hh
          have q2 : uc ((200 + 75 * t + 2) + (5 + 2 * r)) 8 = v0 859 (34 * t + r) := by rw [show (200 + 75 * t + 2) + (5 + 2 * r) = 207 + 75 * t + 2 * r by omega, y1 _ _ (by omega) (by omega)]; exact hh2
          rw [if_neg c5, if_neg (show ¬ r < 0 by omega), ck_t (by omega), ck_t (by omega), wr_id (show -2147483648 ≤ 34 * t ∧ 34 * t < 2147483648 by omega), wr_id (show -2147483648 ≤ 34 * t + j ∧ 34 * t + j < 2147483648 by omega), wr_id (show -2147483648 ≤ 34 * t + r ∧ 34 * t + r < 2147483648 by omega), ck_t (by omega), ck_t (by omega), wr_id (show -2147483648 ≤ j + 1 ∧ j + 1 < 2147483648 by omega)]
          have q3 : u 859 (34 * t + j) = v0 859 (34 * t + j) := y2 _ _ (by decide) (by decide)
          have q4 : u 859 (34 * t + r) = v0 859 (34 * t + r) := y2 _ _ (by decide) (by decide)
          by_cases l : v0 859 (34 * t + j) ≤ v0 859 (34 * t + r)
          · rw [if_pos (show uc ((200 + 75 * t + 2) + (5 + 2 * j)) 8 ≤ uc ((200 + 75 * t + 2) + (5 + 2 * r)) 8 by rw [q1, q2]; exact l), if_pos (show u 859 (34 * t + j) ≤ u 859 (34 * t + r) by rw [q3, q4]; exact l), lt_d, lt_d]
            exact ih k (j + 1) r (by omega) (by omega) (by omega) (keep hr (Or.inr c5))
          · rw [if_neg (show ¬ uc ((200 + 75 * t + 2) + (5 + 2 * j)) 8 ≤ uc ((200 + 75 * t + 2) + (5 + 2 * r)) 8 by rw [q1, q2]; exact l), if_neg (show ¬ u 859 (34 * t + j) ≤ u 859 (34 * t + r) by rw [q3, q4]; exact l), lt_d, lt_d]
            exact ih k (j + 1) j (by omega) (by omega) (by omega) (Or.inr ⟨j0, by omega, e3⟩)
      · rw [skip e3, fX12_nextLaid_5, ck_t ht, show (814 + 34 : Int) = 848 from rfl, hsz2, if_neg (by omega), e1, bd_s, if_pos e2, lt_d, wr_id (by omega)]
        exact ih k (j + 1) r (by omega) (by omega) (by omega) (keep hr (Or.inl e3))
  unfold fX2_choose fX12_nextLaid
  exact go m.toNat fu_ 0 (-1) (by decide) (by omega) (by unfold fu_; omega) (Or.inl ⟨rfl, fun i i0 i1 => by omega⟩)
end LAY
