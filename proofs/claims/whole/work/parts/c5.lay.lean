/-! layer 2: the list, whole -/
section LAY
variable {t m c d : Int} {c0 v0 uc u : V_}
theorem nl1_0 (u : V_) (t j : Int) : 0 ≤ nl1_ u t j := by unfold nl1_; split <;> decide
theorem LY_none (h : LY_ t m c d c0 v0 uc u) (hd : d = m) {j : Int} (hj : 0 ≤ j ∧ j < m) : u 858 (34 * t + j) ≠ -1 := fun e => by
  obtain ⟨-, -, -, -, -, -, -, -, -, -, y11⟩ := h
  have z := (ct_0 (nl1_0 u t) m.toNat).2.mp (by omega) j hj.1 (by omega)
  unfold nl1_ at z
  rw [if_pos e] at z
  exact absurd z (by decide)
theorem LY_lt (h : LY_ t m c d c0 v0 uc u) {j : Int} (hj : 0 ≤ j ∧ j < m) (e : u 858 (34 * t + j) = -1) : d < m := by
  have := h.2.2.2.1
  by_cases c : d = m
  · exact absurd e (LY_none h c hj)
  · omega
theorem item_T (hG : LG_ t m c0 v0) (h : LY_ t m c d c0 v0 uc u) (hc : 0 ≤ c ∧ c ≤ 1000) {r : Int} (hr : 0 ≤ r ∧ r < m) (hR : Rd_ t c v0 u r) : ∃ wc, fX2_layItem 194 (200 + 75 * t) r c uc = some (0, wc) ∧ LY_ t m c (d + 1) c0 v0 wc (up_ (up_ u 858 (34 * t + r) c) 863 (v0 851 (34 * t + r)) (u 863 (v0 851 (34 * t + r)) + 1)) := by
  have hdm := LY_lt h hr hR.1
  obtain ⟨ht, hm, hz, hN, hK, hU⟩ := id hG
  obtain ⟨y1, y2, y3, y4, y5, y6, y7, y8, y9, ⟨y10, y10b⟩, y11⟩ := id h
  obtain ⟨-, kk, k1, k2⟩ := hK r hr.1 hr.2
  obtain ⟨r1, r2, r3⟩ := hR
  obtain ⟨b1, b2, b3⟩ := y8 _ k1 k2
  have hsz : uc (200 + 75 * t) 3 = m := (y1 _ _ (by omega) (by omega)).trans hz.1
  unfold fX2_layItem
  rw [ck_t (by omega), lt_d]
  dsimp only [Int.reduceAdd]
  have e194 : up_ uc 195 r c 194 5 = d := (up_n (by omega)).trans y4.1
  rw [ck_t (by rw [e194]; omega), lt_d, e194, up_n (show ¬ ((194 : Int) = 196 ∧ (5 : Int) = d) by omega), e194, wr_id (show -2147483648 ≤ d + 1 ∧ d + 1 < 2147483648 by omega), lt_d, ck_t (by omega), show (200 + 75 * t + 2) + (5 + 2 * r) + 1 = 208 + 75 * t + 2 * r by omega, kof_e, bd_s]
  try dsimp only
  rw [show up_ (up_ (up_ uc 195 r c) 196 d r) 194 5 (d + 1) (208 + 75 * t + 2 * r) 0 = c0 (208 + 75 * t + 2 * r) 0 by rw [up_n (by omega), up_n (by omega), up_n (by omega), y1 _ _ (by omega) (by omega)], kk, ck_t (by omega), ck_t (by omega), lt_d, lt_d]
  have f199 : up_ (up_ (up_ uc 195 r c) 196 d r) 194 5 (d + 1) 199 (v0 851 (34 * t + r)) = uc 199 (v0 851 (34 * t + r)) := by rw [up_n (by omega), up_n (by omega), up_n (by omega)]
  have hU' := hU _ k1 k2
  rw [f199, wr_id (show -2147483648 ≤ uc 199 (v0 851 (34 * t + r)) - 1 ∧ uc 199 (v0 851 (34 * t + r)) - 1 < 2147483648 by omega), wr_id (show -2147483648 ≤ r + 1 ∧ r + 1 < 2147483648 by omega)]
  clear f199
  generalize ew : up_ (up_ (up_ (up_ uc 195 r c) 196 d r) 194 5 (d + 1)) 199 (v0 851 (34 * t + r)) (uc 199 (v0 851 (34 * t + r)) - 1) = w
  have w0 : ∀ a k, ¬ (a = 195 ∧ k = r) → ¬ (a = 196 ∧ k = d) → ¬ (a = 194 ∧ k = 5) → ¬ (a = 199 ∧ k = v0 851 (34 * t + r)) → w a k = uc a k := fun a k n1 n2 n3 n4 => by rw [← ew, up_n n4, up_n n3, up_n n2, up_n n1]
  have w1 : w 195 r = c ∧ w 196 d = r ∧ w 194 5 = d + 1 ∧ w 199 (v0 851 (34 * t + r)) = uc 199 (v0 851 (34 * t + r)) - 1 := by
    rw [← ew]
    simp (disch := omega) only [up_s, up_n, and_self]
  clear ew
  have hNr : ∀ j, r < j → j < m → w (204 + 75 * t) (34 * r + j) = v0 862 (34 * r + j) := fun j j0 j1 => by
    rw [w0 _ _ (by omega) (by omega) (by omega) (by omega), y1 _ _ (by omega) (by omega)]
    exact (hN r j hr.1 j0 j1).1
  obtain ⟨x, e, -, x1, x2, x3⟩ := lp_s (σ := V_) (F := fun n j x => fX2_layItem_53 n 194 (200 + 75 * t) r c j x) (K := fun x => some (0, x)) (e := m) (I := fun j x => (r < j ∧ j ≤ m) ∧ (∀ a k, a ≠ 197 → a ≠ 198 → x a k = w a k) ∧ (∀ k, r < k → k < j → (0 ≤ v0 862 (34 * r + k) → x 197 k = (if w 197 k ≤ c + v0 862 (34 * r + k) then c + v0 862 (34 * r + k) else w 197 k) ∧ x 198 k = w 198 k - 1) ∧ (v0 862 (34 * r + k) < 0 → x 197 k = w 197 k ∧ x 198 k = w 198 k)) ∧ ∀ k, ¬ (r < k ∧ k < j) → x 197 k = w 197 k ∧ x 198 k = w 198 k) (fun n j x h hj => by
    obtain ⟨⟨j0, j1⟩, a1, a2, a3⟩ := h
    have hn6 := hN r j hr.1 j0 hj
    have exs : x (200 + 75 * t) 3 = m := by rw [a1 _ _ (by omega) (by omega), w0 _ _ (by omega) (by omega) (by omega) (by omega)]; exact hsz
    have exn : x (204 + 75 * t) (34 * r + j) = v0 862 (34 * r + j) := (a1 _ _ (by omega) (by omega)).trans (hNr j j0 hj)
    have en : fX10_needOf (200 + 75 * t) r j x = some (v0 862 (34 * r + j), x) := by
      unfold fX10_needOf
      rw [wr_id (show -2147483648 ≤ r * 34 ∧ r * 34 < 2147483648 by omega), wr_id (show -2147483648 ≤ r * 34 + j ∧ r * 34 + j < 2147483648 by omega), ck_t (by omega), show 200 + 75 * t + 4 = 204 + 75 * t by omega, show r * 34 + j = 34 * r + j by omega, exn]
    rw [fX2_layItem_53, exs, if_neg (by omega), en, bd_s]
    try dsimp only
    obtain ⟨o1, o2⟩ := a3 j (by omega)
    by_cases neg : v0 862 (34 * r + j) < 0
    · rw [if_pos neg, lt_d, wr_id (by omega)]
      refine ⟨x, rfl, by omega, a1, fun k k0 k1 => ?_, fun k k0 => a3 k (by omega)⟩
      by_cases e : k = j
      · rw [e]
        exact ⟨fun q => by omega, fun _ => ⟨o1, o2⟩⟩
      · exact a2 k k0 (by omega)
    · have z7 := (y7 j (by omega) hj).1
      have e7 : w 197 j = uc 197 j := w0 _ _ (by omega) (by omega) (by omega) (by omega)
      have e8 : w 198 j = uc 198 j := w0 _ _ (by omega) (by omega) (by omega) (by omega)
      have b8 := (ct_0 (wt_01 v0 u t j) j.toNat).1
      have b9 : ct_ (wt_ v0 u t j) j.toNat ≤ 34 := by
        have := (ct_01 (f := wt_ v0 u t j) (fun i => by unfold wt_; split <;> decide) j.toNat).2
        omega
      have e9 := y6 j (by omega) hj
      rw [if_neg neg, ck_t (by omega), ck_t (by omega), lt_d, ck_t (by omega), ck_t (by omega), lt_d, lt_d]
      try dsimp only [Int.reduceAdd]
      rw [o1, up_n (show ¬ ((198 : Int) = 197 ∧ j = j) by omega), o2, wr_id (show -2147483648 ≤ c + v0 862 (34 * r + j) ∧ c + v0 862 (34 * r + j) < 2147483648 by omega), wr_id (show -2147483648 ≤ w 198 j - 1 ∧ w 198 j - 1 < 2147483648 by omega), wr_id (by omega), mx_e]
      refine ⟨_, rfl, by omega, fun a k q q2 => ?_, fun k k0 k1 => ?_, fun k k0 => ?_⟩
      · rw [up_n (by omega), up_n (by omega)]; exact a1 a k q q2
      · by_cases e : k = j
        · rw [e]
          refine ⟨fun _ => ⟨?_, ?_⟩, fun q => absurd q neg⟩
          · rw [up_n (by omega), up_s ⟨rfl, rfl⟩]
          · rw [up_s ⟨rfl, rfl⟩]
        · rw [up_n (by omega), up_n (by omega), up_n (by omega), up_n (by omega)]
          exact a2 k k0 (by omega)
      · rw [up_n (by omega), up_n (by omega), up_n (by omega), up_n (by omega)]
        exact a3 k (by omega)) (fun n x h => by
    have exs : x (200 + 75 * t) 3 = m := by rw [h.2.1 _ _ (by omega) (by omega), w0 _ _ (by omega) (by omega) (by omega) (by omega)]; exact hsz
    rw [fX2_layItem_53, exs, if_pos (by omega)]) (m - (r + 1)).toNat fu_ (r + 1) w ⟨by omega, fun _ _ _ _ => rfl, fun k k0 k1 => by omega, fun k _ => ⟨rfl, rfl⟩⟩ (by omega) (by unfold fu_; omega)
  rw [e]
  generalize eU : up_ (up_ u 858 (34 * t + r) c) 863 (v0 851 (34 * t + r)) (u 863 (v0 851 (34 * t + r)) + 1) = U
  have U0 : ∀ a k, ¬ (a = 858 ∧ k = 34 * t + r) → ¬ (a = 863 ∧ k = v0 851 (34 * t + r)) → U a k = u a k := fun a k n n2 => by rw [← eU, up_n n2, up_n n]
  have U1 : U 858 (34 * t + r) = c := by rw [← eU, up_n (by omega), up_s ⟨rfl, rfl⟩]
  have U2 : U 863 (v0 851 (34 * t + r)) = u 863 (v0 851 (34 * t + r)) + 1 := by rw [← eU, up_s ⟨rfl, rfl⟩]
  clear eU
  have Uj : ∀ j, j ≠ r → U 858 (34 * t + j) = u 858 (34 * t + j) := fun j q => U0 _ _ (by omega) (by omega)
  have X : ∀ a k, a ≠ 197 → a ≠ 198 → ¬ (a = 195 ∧ k = r) → ¬ (a = 196 ∧ k = d) → ¬ (a = 194 ∧ k = 5) → ¬ (a = 199 ∧ k = v0 851 (34 * t + r)) → x a k = uc a k := fun a k q q2 n1 n2 n3 n4 => (x1 a k q q2).trans (w0 a k n1 n2 n3 n4)
  have x197 : ∀ j, ¬ (r < j ∧ j < m) ∨ v0 862 (34 * r + j) < 0 → x 197 j = uc 197 j ∧ x 198 j = uc 198 j := fun j hj => by
    have e7 : w 197 j = uc 197 j := w0 _ _ (by omega) (by omega) (by omega) (by omega)
    have e8 : w 198 j = uc 198 j := w0 _ _ (by omega) (by omega) (by omega) (by omega)
    by_cases q : r < j ∧ j < m
    · have := (x2 j q.1 q.2).2 (by omega)
      omega
    · have := x3 j q
      omega
  have x197b : ∀ j, r < j → j < m → 0 ≤ v0 862 (34 * r + j) → x 197 j = (if uc 197 j ≤ c + v0 862 (34 * r + j) then c + v0 862 (34 * r + j) else uc 197 j) ∧ x 198 j = uc 198 j - 1 := fun j j0 j1 hn => by
    have e7 : w 197 j = uc 197 j := w0 _ _ (by omega) (by omega) (by omega) (by omega)
    have e8 : w 198 j = uc 198 j := w0 _ _ (by omega) (by omega) (by omega) (by omega)
    have := (x2 j j0 j1).1 hn
    rw [e7, e8] at this
    exact this
  have wtr : wt_ v0 u t = wt_ v0 u t := rfl
  refine ⟨x, rfl, fun a k q q2 => ?_, fun a k q q2 => ?_, fun k q => ?_, ⟨?_, by omega, by omega⟩, fun j j0 j1 => ?_, fun j j0 j1 => ?_, fun j j0 j1 => ?_, fun k q q2 => ?_, fun i j i0 i1 j1 hn hj => ?_, ⟨fun q q0 q1 => ?_, fun j j0 j1 hj => ?_⟩, ?_⟩
  · rw [X _ _ (by omega) (by omega) (by omega) (by omega) (by omega) (by omega)]; exact y1 a k q q2
  · rw [U0 _ _ (by omega) (by omega)]; exact y2 a k q q2
  · rw [U0 _ _ (by omega) (by omega)]; exact y3 k q
  · rw [x1 _ _ (by decide) (by decide)]; exact w1.2.2.1
  · by_cases e : j = r
    · rw [e, U1, x1 _ _ (by decide) (by decide), w1.1]
      omega
    · rw [Uj j e, X _ _ (by decide) (by decide) (by omega) (by omega) (by omega) (by omega)]
      exact y5 j j0 j1
  · by_cases hn : 0 ≤ v0 862 (34 * r + j)
    · have cu := ct_up (f := wt_ v0 u t j) (h := wt_ v0 U t j) hr.1 (fun k q => by unfold wt_; rw [Uj k q]) (by unfold wt_; rw [U1, if_neg (by omega), if_pos ⟨hn, r1⟩]; rfl) j.toNat
      by_cases q : r < j
      · rw [(x197b j q j1 hn).2, cu, if_pos (by omega), y6 j j0 j1]
      · rw [(x197 j (Or.inl (by omega))).2, cu, if_neg (by omega)]
        exact y6 j j0 j1
    · rw [(x197 j (Or.inr (by omega))).2, y6 j j0 j1]
      refine ct_congr _ fun i i0 i1 => ?_
      unfold wt_
      by_cases e : i = r
      · rw [e, if_neg (by omega), if_neg (by omega)]
      · rw [Uj i e]
  · obtain ⟨z1, z2, z3⟩ := y7 j j0 j1
    by_cases q : r < j ∧ 0 ≤ v0 862 (34 * r + j)
    · have n6 := hN r j hr.1 q.1 j1
      have ex := (x197b j q.1 j1 q.2).1
      refine ⟨by rw [ex]; split <;> omega, fun i i0 i1 hn hi => ?_, ?_⟩
      · by_cases e : i = r
        · rw [e, U1, ex]
          split <;> omega
        · rw [Uj i e] at hi ⊢
          have := z2 i i0 i1 hn hi
          rw [ex]
          split <;> omega
      · by_cases l : uc 197 j ≤ c + v0 862 (34 * r + j)
        · exact Or.inr ⟨r, hr.1, q.1, q.2, by rw [U1]; exact hc.1, by rw [ex, if_pos l, U1]⟩
        · rw [ex, if_neg l]
          rcases z3 with z3 | ⟨i, i0, i1, i2, i3, i4⟩
          · exact Or.inl z3
          · have : i ≠ r := fun e => by rw [e] at i3; omega
            exact Or.inr ⟨i, i0, i1, i2, by rw [Uj i this]; exact i3, by rw [Uj i this]; exact i4⟩
    · have ex := (x197 j (by
        by_cases a : r < j
        · exact Or.inr (by
            by_cases b : 0 ≤ v0 862 (34 * r + j)
            · exact absurd ⟨a, b⟩ q
            · omega)
        · exact Or.inl (by omega))).1
      rw [ex]
      refine ⟨z1, fun i i0 i1 hn hi => ?_, ?_⟩
      · by_cases e : i = r
        · rw [e] at i1 hn
          exact absurd ⟨i1, hn⟩ q
        · rw [Uj i e] at hi ⊢
          exact z2 i i0 i1 hn hi
      · rcases z3 with z3 | ⟨i, i0, i1, i2, i3, i4⟩
        · exact Or.inl z3
        · have : i ≠ r := fun e => by rw [e] at i3; omega
          exact Or.inr ⟨i, i0, i1, i2, by rw [Uj i this]; exact i3, by rw [Uj i this]; exact i4⟩
  · have := y8 k q q2
    by_cases e : k = v0 851 (34 * t + r)
    · rw [e, x1 _ _ (by decide) (by decide), w1.2.2.2, U2]
      rw [e] at this
      omega
    · rw [X _ _ (by decide) (by decide) (by omega) (by omega) (by omega) (by omega), U0 _ _ (by omega) (by omega)]
      omega
  · by_cases e : j = r
    · rw [e] at i1 hn hj ⊢
      have := r2 i i0 i1 hn
      rw [U1, Uj i (by omega)]
      exact this
    · rw [Uj j e] at hj ⊢
      have := y9 i j i0 i1 j1 hn hj
      have ne : i ≠ r := fun f => by rw [f] at this; omega
      rw [Uj i ne]
      exact this
  · have o196 : ∀ q, q ≠ d → x 196 q = uc 196 q := fun q hq => X _ _ (by decide) (by decide) (by omega) (by omega) (by omega) (by omega)
    have e196 : x 196 d = r := (x1 _ _ (by decide) (by decide)).trans w1.2.1
    by_cases e : q = d
    · rw [e, e196, U1]
      refine ⟨hr, hc.1, fun q' z0 z1 => ?_⟩
      have o := y10 q' z0 (by omega)
      have ne : uc 196 q' ≠ r := fun f => by rw [f] at o; omega
      rw [o196 q' (by omega), Uj _ ne]
      have := y5 (uc 196 q') o.1.1 o.1.2
      exact ⟨this.2.2, ne⟩
    · have o := y10 q q0 (by omega)
      have ne : uc 196 q ≠ r := fun f => by rw [f] at o; omega
      rw [o196 q e, Uj _ ne]
      refine ⟨o.1, o.2.1, fun q' z0 z1 => ?_⟩
      have o' := y10 q' z0 (by omega)
      have ne' : uc 196 q' ≠ r := fun f => by rw [f] at o'; omega
      rw [o196 q' (by omega), Uj _ ne']
      exact o.2.2 q' z0 z1
  · by_cases e : j = r
    · exact ⟨d, by omega, by omega, by rw [e]; exact (x1 _ _ (by decide) (by decide)).trans w1.2.1⟩
    · rw [Uj j e] at hj
      obtain ⟨q, z0, z1, z2⟩ := y10b j j0 j1 hj
      exact ⟨q, z0, by omega, by rw [X _ _ (by decide) (by decide) (by omega) (by omega) (by omega) (by omega)]; exact z2⟩
  · have cu := ct_up (f := nl1_ u t) (h := nl1_ U t) hr.1 (fun k q => by unfold nl1_; rw [Uj k q]) (by unfold nl1_; rw [U1, if_neg (by omega), if_pos r1]; rfl) m.toNat
    rw [cu, if_pos (by omega)]
    omega
theorem cyc_T (hG : LG_ t m c0 v0) (hc : 0 ≤ c ∧ c ≤ 1000) (k : Int → Int → Int → Int → V_ → Option (Int × V_)) (k2 : Int → Int → Int → Int → V_ → Option (Int × V_)) : ∀ (e n n2 : Nat) (cnt d r : Int) (uc u : V_), LY_ t m c d c0 v0 uc u → ((r = -1 ∧ ∀ j, 0 ≤ j → j < m → ¬ Rd_ t c v0 u j) ∨ (0 ≤ r ∧ r < m ∧ Rd_ t c v0 u r)) → 0 ≤ cnt → cnt ≤ d → m = d + e → e < n → e < n2 → ∃ wc w d', fX2_lay_47 k n 194 (200 + 75 * t) 193 c r cnt uc = k 194 (200 + 75 * t) 193 (c + 1) wc ∧ fX12_laysTrace_74 k2 n2 814 t (m - d) c r u = k2 814 t (m - d') (c + 1) w ∧ LY_ t m c d' c0 v0 wc w ∧ d ≤ d' ∧ (r ≠ -1 → d + 1 ≤ d') := by
  intro e
  obtain ⟨ht, hm, hz, hN, hK, hU⟩ := id hG
  induction e with
  | zero =>
    intro n n2 cnt d r uc u h hr c0' c1 hd hn hn2
    obtain ⟨n, rfl⟩ : ∃ l, n = l + 1 := ⟨n - 1, by omega⟩
    obtain ⟨n2, rfl⟩ : ∃ l, n2 = l + 1 := ⟨n2 - 1, by omega⟩
    have hsz : uc (200 + 75 * t) 3 = m := (h.1 _ _ (by omega) (by omega)).trans hz.1
    rcases hr with ⟨r1, -⟩ | ⟨r1, r2, r3⟩
    · refine ⟨uc, u, d, ?_, ?_, h, by omega, fun q => absurd r1 q⟩
      · rw [fX2_lay_47, hsz]
        by_cases q : m ≤ cnt
        · rw [if_pos q, lt_d, wr_id (by omega)]
        · rw [if_neg q, if_pos r1, lt_d, wr_id (by omega)]
      · rw [fX12_laysTrace_74, if_pos (by omega), lt_d, wr_id (by omega)]
    · exact absurd r3.1 (LY_none h (by omega) ⟨r1, r2⟩)
  | succ e ih =>
    intro n n2 cnt d r uc u h hr c0' c1 hd hn hn2
    obtain ⟨n, rfl⟩ : ∃ l, n = l + 1 := ⟨n - 1, by omega⟩
    obtain ⟨n2, rfl⟩ : ∃ l, n2 = l + 1 := ⟨n2 - 1, by omega⟩
    have hsz : uc (200 + 75 * t) 3 = m := (h.1 _ _ (by omega) (by omega)).trans hz.1
    rcases hr with ⟨r1, -⟩ | ⟨r1, r2, r3⟩
    · refine ⟨uc, u, d, ?_, ?_, h, by omega, fun q => absurd r1 q⟩
      · rw [fX2_lay_47, hsz]
        by_cases q : m ≤ cnt
        · rw [if_pos q, lt_d, wr_id (by omega)]
        · rw [if_neg q, if_pos r1, lt_d, wr_id (by omega)]
      · rw [fX12_laysTrace_74, if_pos (by omega), lt_d, wr_id (by omega)]
    · obtain ⟨wc, e1, h1⟩ := item_T hG h hc ⟨r1, r2⟩ r3
      have kk := hK r r1 r2
      have e851 : up_ u 858 (34 * t + r) c 851 (34 * t + r) = v0 851 (34 * t + r) := by rw [up_n (by omega)]; exact h.2.1 _ _ (by decide) (by decide)
      have e863 : up_ u 858 (34 * t + r) c 863 (v0 851 (34 * t + r)) = u 863 (v0 851 (34 * t + r)) := up_n (by omega)
      have b8 := h.2.2.2.2.2.2.2.1 (v0 851 (34 * t + r)) (by omega) (by omega)
      have d4 := h.2.2.2.1
      obtain ⟨r', f1, f2, f3⟩ := choose_T hG h1 hc
      obtain ⟨xc, x, d', s1, s2, s3, s4, -⟩ := ih n n2 (cnt + 1) (d + 1) r' wc _ h1 f3 (by omega) (by omega) (by omega) (by omega) (by omega)
      refine ⟨xc, x, d', ?_, ?_, s3, by omega, fun _ => by omega⟩
      · rw [fX2_lay_47, hsz, if_neg (by omega), if_neg (by omega), e1, bd_s]
        try dsimp only
        rw [f1, bd_s, lt_d, wr_id (by omega)]
        exact s1
      · rw [fX12_laysTrace_74, if_neg (by omega), wr_id (show -2147483648 ≤ 34 * t ∧ 34 * t < 2147483648 by omega), wr_id (show -2147483648 ≤ 34 * t + r ∧ 34 * t + r < 2147483648 by omega), ck_t (by omega), lt_d, ck_t (by omega)]
        dsimp only [Int.reduceAdd]
        rw [ck_t (by rw [e851]; omega), ck_t (by rw [e851]; omega), lt_d, lt_d, e851, e863, wr_id (by omega), wr_id (by omega), f2, bd_s]
        try dsimp only
        rw [show m - d + (-1) = m - (d + 1) by omega]
        exact s2
end LAY
