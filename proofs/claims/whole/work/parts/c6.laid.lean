/-! layer 2: a trace laid, in both -/
section LAY
variable {t m c d : Int} {c0 v0 uc u : V_}
theorem LY_rs (hG : LG_ t m c0 v0) (h : LY_ t m c d c0 v0 uc u) : LY_ t m c d c0 v0 (cp_ uc 193 0 199 0 4) (zf_ u 863 0 4) ∧ ∀ k, 0 ≤ k → k < 4 → zf_ u 863 0 4 863 k = 0 := by
  obtain ⟨ht, hm, hz, hN, hK, hU⟩ := hG
  obtain ⟨y1, y2, y3, y4, y5, y6, y7, y8, y9, ⟨y10, y10b⟩, y11⟩ := h
  have C : ∀ a k, a ≠ 199 → cp_ uc 193 0 199 0 4 a k = uc a k := fun a k q => cp_o (by omega)
  have Z : ∀ a k, a ≠ 863 → zf_ u 863 0 4 a k = u a k := fun a k q => zf_o (by omega)
  have z0 : ∀ k, 0 ≤ k → k < 4 → zf_ u 863 0 4 863 k = 0 := fun k k0 k1 => zf_i ⟨rfl, k0, by omega⟩
  have z858 : zf_ u 863 0 4 858 = u 858 := funext fun k => Z _ _ (by decide)
  have ew : ∀ j, wt_ v0 (zf_ u 863 0 4) t j = wt_ v0 u t j := fun j => by unfold wt_; rw [z858]
  have en : nl1_ (zf_ u 863 0 4) t = nl1_ u t := by unfold nl1_; rw [z858]
  refine ⟨⟨fun a k q q2 => (C _ _ (by omega)).trans (y1 a k q q2), fun a k q q2 => (Z _ _ q2).trans (y2 a k q q2), fun k q => by rw [z858]; exact y3 k q, by rw [C _ _ (by decide)]; exact y4, fun j j0 j1 => by rw [z858, C _ _ (by decide)]; exact y5 j j0 j1, fun j j0 j1 => by rw [ew, C _ _ (by decide)]; exact y6 j j0 j1, fun j j0 j1 => by rw [z858, C _ _ (by decide)]; exact y7 j j0 j1, fun k k0 k1 => ?_, by rw [z858]; exact y9, ?_, by rw [en]; exact y11⟩, z0⟩
  · rw [z0 k k0 k1, cp_i ⟨rfl, k0, by omega⟩, show (0 : Int) + (k - 0) = k by omega, y1 _ _ (by omega) (by omega), (hU k k0 k1).1]
    omega
  · have e196 : ∀ q, cp_ uc 193 0 199 0 4 196 q = uc 196 q := fun q => C _ _ (by decide)
    rw [z858]
    simp only [e196]
    exact ⟨y10, y10b⟩
theorem LY_w {c' : Int} (h : LY_ t m c d c0 v0 uc u) (hc : c ≤ c') : LY_ t m c' d c0 v0 uc u := by
  obtain ⟨y1, y2, y3, y4, y5, y6⟩ := h
  exact ⟨y1, y2, y3, y4, fun j j0 j1 => by have := y5 j j0 j1; omega, y6⟩
theorem least_e {P : Int → Prop} (hP : ∀ j, P j ∨ ¬ P j) : ∀ n : Nat, (∃ j, 0 ≤ j ∧ j < (n : Int) ∧ P j) → ∃ j, 0 ≤ j ∧ j < (n : Int) ∧ P j ∧ ∀ i, 0 ≤ i → i < j → ¬ P i := by
  intro n
  induction n with
  | zero => exact fun ⟨j, j0, j1, _⟩ => by omega
  | succ n ih =>
    intro ⟨j, j0, j1, j2⟩
    rcases hP n with h | h
    · by_cases q : ∃ j, 0 ≤ j ∧ j < (n : Int) ∧ P j
      · obtain ⟨i, a, b, e, f⟩ := ih q
        exact ⟨i, a, by omega, e, f⟩
      · exact ⟨n, by omega, by omega, h, fun i i0 i1 hp => q ⟨i, i0, i1, hp⟩⟩
    · have : j ≠ n := fun e => h (by rw [← e]; exact j2)
      obtain ⟨i, a, b, e, f⟩ := ih ⟨j, j0, by omega, j2⟩
      exact ⟨i, a, by omega, e, f⟩
theorem prog_e (hG : LG_ t m c0 v0) {l : Int} (h : LY_ t m l d c0 v0 uc u) (hb : ∀ k, 0 ≤ k → k < 4 → u 863 k = 0) (hd : d < m) (hc : l + 6 ≤ c) : ∃ j, 0 ≤ j ∧ j < m ∧ Rd_ t c v0 u j := by
  obtain ⟨ht, hm, hz, hN, hK, hU⟩ := hG
  obtain ⟨y1, y2, y3, y4, y5, y6, y7, y8, y9, y10, y11⟩ := h
  have ex : ∃ j, 0 ≤ j ∧ j < (m.toNat : Int) ∧ u 858 (34 * t + j) = -1 := by
    by_cases q : ∃ j, 0 ≤ j ∧ j < (m.toNat : Int) ∧ u 858 (34 * t + j) = -1
    · exact q
    · exfalso
      have := (ct_0 (nl1_0 u t) m.toNat).2.mpr fun i i0 i1 => by
        unfold nl1_
        rw [if_neg fun e => q ⟨i, i0, i1, e⟩]
      omega
  obtain ⟨j, j0, j1, j2, j3⟩ := least_e (fun j => Int.decEq (u 858 (34 * t + j)) (-1) |> fun h => match h with | isTrue a => Or.inl a | isFalse a => Or.inr a) m.toNat ex
  have kk := hK j j0 (by omega)
  refine ⟨j, j0, by omega, j2, fun i i0 i1 hn => ?_, ?_⟩
  · have a := j3 i i0 i1
    have b := y5 i i0 (by omega)
    have e := hN i j i0 i1 (by omega)
    exact ⟨by omega, by omega⟩
  · rw [hb _ (by omega) (by omega)]
    have := hU (v0 851 (34 * t + j)) (by omega) (by omega)
    omega
theorem outer_T (hG : LG_ t m c0 v0) : ∀ (e n n2 : Nat) (c l d : Int) (uc u : V_), LY_ t m l d c0 v0 (cp_ uc 193 0 199 0 4) (zf_ u 863 0 4) → -1 ≤ l → l < c → c - l ≤ 7 → l + 1 ≤ 7 * d → c + e = 300 → e < n → e < n2 → ∃ wc w l, fX2_lay_7 n 194 (200 + 75 * t) 193 c uc = fX2_lay_90 194 (200 + 75 * t) wc ∧ fX12_laysTrace_39 n2 814 t (m - d) c u = some (0, w) ∧ LY_ t m l m c0 v0 (cp_ wc 193 0 199 0 4) (zf_ w 863 0 4) ∧ l < 300 := by
  intro e
  obtain ⟨ht, hm, hz, hN, hK, hU⟩ := id hG
  have stop : ∀ (n n2 : Nat) (c l d : Int) (uc u : V_), LY_ t m l d c0 v0 (cp_ uc 193 0 199 0 4) (zf_ u 863 0 4) → d = m → c < 10000 → l < 300 → ∃ wc w l, fX2_lay_7 (n + 1) 194 (200 + 75 * t) 193 c uc = fX2_lay_90 194 (200 + 75 * t) wc ∧ fX12_laysTrace_39 (n2 + 1) 814 t (m - d) c u = some (0, w) ∧ LY_ t m l m c0 v0 (cp_ wc 193 0 199 0 4) (zf_ w 863 0 4) ∧ l < 300 := fun n n2 c l d uc u h hd hc hl => by
    have e5 : uc 194 5 = d := by
      have := h.2.2.2.1.1
      rw [cp_o (by omega)] at this
      exact this
    have e3 : uc (200 + 75 * t) 3 = m := by
      have := h.1 (200 + 75 * t) 3 (by omega) (by omega)
      rw [cp_o (by omega)] at this
      exact this.trans hz.1
    refine ⟨uc, u, l, ?_, ?_, by rw [hd] at h; exact h, hl⟩
    · rw [fX2_lay_7, if_neg (by omega), e3, e5, if_pos (by omega)]
    · rw [fX12_laysTrace_39, if_pos (by omega)]
  induction e with
  | zero =>
    intro n n2 c l d uc u h l0 l1 l2 l3 he hn hn2
    have := h.2.2.2.1
    omega
  | succ e ih =>
    intro n n2 c l d uc u h l0 l1 l2 l3 he hn hn2
    obtain ⟨n, rfl⟩ : ∃ k, n = k + 1 := ⟨n - 1, by omega⟩
    obtain ⟨n2, rfl⟩ : ∃ k, n2 = k + 1 := ⟨n2 - 1, by omega⟩
    have d4 := h.2.2.2.1
    by_cases hd : d = m
    · exact stop n n2 c l d uc u h hd (by omega) (by omega)
    · have e5 : uc 194 5 = d := by
        have := h.2.2.2.1.1
        rw [cp_o (by omega)] at this
        exact this
      have e3 : uc (200 + 75 * t) 3 = m := by
        have := h.1 (200 + 75 * t) 3 (by omega) (by omega)
        rw [cp_o (by omega)] at this
        exact this.trans hz.1
      have hc : 0 ≤ c ∧ c ≤ 1000 := by omega
      have h1 := LY_w h (show l ≤ c by omega)
      obtain ⟨r, f1, f2, f3⟩ := choose_T hG h1 hc
      have cls0 : fX2_lay_7 (n + 1) 194 (200 + 75 * t) 193 c uc = fX2_lay_47 (fX2_lay_7 n) fu_ 194 (200 + 75 * t) 193 c r 0 (cp_ uc 193 0 199 0 4) := by
        rw [fX2_lay_7, if_neg (by omega), e3, e5, if_neg (by omega), lt_d]
        dsimp only [Int.reduceAdd]
        rw [f1, bd_s]
      have rfs0 : fX12_laysTrace_39 (n2 + 1) 814 t (m - d) c u = fX12_laysTrace_74 (fX12_laysTrace_39 n2) fu_ 814 t (m - d) c r (zf_ u 863 0 4) := by
        have lz := lp_z (F := fun n' i v => fX12_laysTrace_46 (fX12_laysTrace_39 n2) n' 814 t (m - d) c i v) (K := fun v => bd_ (fX12_nextLaid 814 t c v) fun q9 => fX12_laysTrace_74 (fX12_laysTrace_39 n2) fu_ 814 t (m - d) c q9.1 q9.2) (a := 863) (lo := 0) (e := 4) (fun n' i v h0 h1 => by
          show fX12_laysTrace_46 (fX12_laysTrace_39 n2) (n' + 1) 814 t (m - d) c i v = _
          rw [fX12_laysTrace_46, if_neg (by omega), ck_t (by omega), lt_d, lt_d, wr_id (by omega)]
          rfl) (fun n' v => by
          show fX12_laysTrace_46 (fX12_laysTrace_39 n2) (n' + 1) 814 t (m - d) c 4 v = _
          rw [fX12_laysTrace_46, if_pos (by decide)]) 4 fu_ 0 u (by decide) (by decide) (by decide)
        rw [fX12_laysTrace_39, if_neg (by omega)]
        refine lz.trans ?_
        show bd_ (fX12_nextLaid 814 t c (zf_ u 863 0 4)) _ = _
        rw [f2, bd_s]
      rw [cls0, rfs0]
      obtain ⟨N, hN'⟩ := fu_ge 1 (by decide)
      by_cases q : r = -1
      · have hpr : c < l + 6 := by
          by_cases z : c < l + 6
          · exact z
          · exfalso
            obtain ⟨j, j0, j1, j2⟩ := prog_e (c := c) hG h (fun k k0 k1 => zf_i ⟨rfl, k0, by omega⟩) (by omega) (by omega)
            rcases f3 with ⟨-, f3⟩ | ⟨f3, -, -⟩
            · exact f3 j j0 j1 j2
            · omega
        have c1 : fX2_lay_47 (fX2_lay_7 n) fu_ 194 (200 + 75 * t) 193 c r 0 (cp_ uc 193 0 199 0 4) = fX2_lay_7 n 194 (200 + 75 * t) 193 (c + 1) (cp_ uc 193 0 199 0 4) := by
          rw [hN', fX2_lay_47]
          by_cases z : cp_ uc 193 0 199 0 4 (200 + 75 * t) 3 ≤ 0
          · rw [if_pos z, lt_d, wr_id (by omega)]
          · rw [if_neg z, if_pos q, lt_d, wr_id (by omega)]
        have r1 : fX12_laysTrace_74 (fX12_laysTrace_39 n2) fu_ 814 t (m - d) c r (zf_ u 863 0 4) = fX12_laysTrace_39 n2 814 t (m - d) (c + 1) (zf_ u 863 0 4) := by
          rw [hN', fX12_laysTrace_74, if_pos (by omega), lt_d, wr_id (by omega)]
        rw [c1, r1]
        exact ih n n2 (c + 1) l d _ _ (LY_rs hG h).1 l0 (by omega) (by omega) l3 (by omega) (by omega) (by omega)
      · obtain ⟨wc, w, d', s1, s2, s3, s4, s5⟩ := cyc_T hG hc (fX2_lay_7 n) (fX12_laysTrace_39 n2) (m - d).toNat fu_ fu_ 0 d r _ _ h1 f3 (by decide) d4.2.1 (by omega) (by unfold fu_; omega) (by unfold fu_; omega)
        rw [s1, s2]
        have := s5 q
        exact ih n n2 (c + 1) c d' wc w (LY_rs hG s3).1 (by omega) (by omega) (by omega) (by omega) (by omega) (by omega) (by omega)
/-- what is laid: cycles alike, needs kept, an order by cycles -/
def LD_ (t m : Int) (v0 wc w : V_) : Prop := (∀ j, 0 ≤ j → j < m → wc 195 j = w 858 (34 * t + j) ∧ 0 ≤ w 858 (34 * t + j) ∧ w 858 (34 * t + j) < 300) ∧ (∀ i j, 0 ≤ i → i < j → j < m → 0 ≤ v0 862 (34 * i + j) → w 858 (34 * t + i) + v0 862 (34 * i + j) ≤ w 858 (34 * t + j)) ∧ (∀ q, 0 ≤ q → q < m → (0 ≤ wc 196 q ∧ wc 196 q < m) ∧ ∀ q', 0 ≤ q' → q' < q → w 858 (34 * t + wc 196 q') ≤ w 858 (34 * t + wc 196 q) ∧ wc 196 q' ≠ wc 196 q) ∧ ∀ j, 0 ≤ j → j < m → ∃ q, 0 ≤ q ∧ q < m ∧ wc 196 q = j
theorem lay_T (hG : LG_ t m c0 v0) : ∃ wc w, fX2_lay 194 (200 + 75 * t) 193 c0 = some (w 858 (34 * t + (m - 1)) + 1, wc) ∧ fX12_laysTrace 814 t v0 = some (0, w) ∧ LD_ t m v0 wc w ∧ (∀ a k, ¬ (a = 194 ∧ k = 5) → ¬ (195 ≤ a ∧ a ≤ 199) → wc a k = c0 a k) ∧ (∀ a k, a ≠ 858 → a ≠ 863 → w a k = v0 a k) ∧ ∀ k, ¬ (34 * t ≤ k ∧ k < 34 * t + 34) → w 858 k = v0 858 k := by
  obtain ⟨ht, hm, hz, hN, hK, hU⟩ := id hG
  -- the class begins
  have beg : ∃ b, fX2_begin 194 (200 + 75 * t) c0 = some (0, b) ∧ (∀ a k, ¬ (a = 194 ∧ k = 5) → a ≠ 195 → a ≠ 197 → a ≠ 198 → b a k = c0 a k) ∧ b 194 5 = 0 ∧ ∀ j, 0 ≤ j → j < m → b 195 j = -1 ∧ b 197 j = 0 ∧ b 198 j = ct_ (fun i => if 0 ≤ v0 862 (34 * i + j) then 1 else 0) j.toNat := by
    unfold fX2_begin
    rw [lt_d]
    obtain ⟨b, e, -, b1, b2⟩ := lp_s (σ := V_) (F := fun n j b => fX2_begin_7 n 194 (200 + 75 * t) j b) (K := fun b => some (0, b)) (e := m) (I := fun j b => 0 ≤ j ∧ (∀ a k, a ≠ 195 → a ≠ 197 → a ≠ 198 → b a k = up_ c0 194 5 0 a k) ∧ ∀ k, 0 ≤ k → k < j → b 195 k = -1 ∧ b 197 k = 0 ∧ b 198 k = ct_ (fun i => if 0 ≤ v0 862 (34 * i + k) then 1 else 0) k.toNat) (fun n j b h hj => by
      obtain ⟨j0, b1, b2⟩ := h
      have hsz : b (200 + 75 * t) 3 = m := by rw [b1 _ _ (by omega) (by omega) (by omega), up_n (by omega)]; exact hz.1
      rw [fX2_begin_7, hsz, if_neg (by omega), ck_t (by omega), lt_d, ck_t (by omega), lt_d, ck_t (by omega), lt_d]
      dsimp only [Int.reduceAdd]
      generalize ex : up_ (up_ (up_ b 195 j (-1)) 197 j 0) 198 j 0 = x
      have x0 : ∀ a k, ¬ (a = 195 ∧ k = j) → ¬ (a = 197 ∧ k = j) → ¬ (a = 198 ∧ k = j) → x a k = b a k := fun a k n1 n2 n3 => by rw [← ex, up_n n3, up_n n2, up_n n1]
      have x1 : x 195 j = -1 ∧ x 197 j = 0 ∧ x 198 j = 0 := by
        rw [← ex]
        simp (disch := omega) only [up_s, up_n, and_self]
      clear ex
      obtain ⟨y, e, ⟨-, -⟩, y1, y2⟩ := lp_s (σ := V_) (F := fun n' i y => fX2_begin_38 (fX2_begin_7 n) n' 194 (200 + 75 * t) j i y) (K := fun y => fX2_begin_7 n 194 (200 + 75 * t) (j + 1) y) (e := j) (I := fun i y => (0 ≤ i ∧ i ≤ j) ∧ (∀ a k, ¬ (a = 198 ∧ k = j) → y a k = x a k) ∧ y 198 j = ct_ (fun i => if 0 ≤ v0 862 (34 * i + j) then 1 else 0) i.toNat) (fun n' i y h hi => by
        obtain ⟨⟨i0, i1⟩, y1, y2⟩ := h
        have hn6 := hN i j i0 hi hj
        have en : fX10_needOf (200 + 75 * t) i j y = some (v0 862 (34 * i + j), y) := by
          unfold fX10_needOf
          rw [wr_id (show -2147483648 ≤ i * 34 ∧ i * 34 < 2147483648 by omega), wr_id (show -2147483648 ≤ i * 34 + j ∧ i * 34 + j < 2147483648 by omega), ck_t (by omega), show 200 + 75 * t + 4 = 204 + 75 * t by omega, show i * 34 + j = 34 * i + j by omega, y1 _ _ (by omega), x0 _ _ (by omega) (by omega) (by omega), b1 _ _ (by omega) (by omega) (by omega), up_n (by omega), hn6.1]
        have cb := (ct_01 (f := fun i => if 0 ≤ v0 862 (34 * i + j) then (1 : Int) else 0) (fun i => by split <;> decide) i.toNat)
        have ec : ct_ (fun i => if 0 ≤ v0 862 (34 * i + j) then (1 : Int) else 0) (i + 1).toNat = ct_ (fun i => if 0 ≤ v0 862 (34 * i + j) then (1 : Int) else 0) i.toNat + (if 0 ≤ v0 862 (34 * i + j) then 1 else 0) := by
          rw [show (i + 1).toNat = i.toNat + 1 by omega]
          simp only [ct_]
          rw [show ((i.toNat : Nat) : Int) = i by omega]
        rw [fX2_begin_38, if_neg (by omega), ck_t (by omega), en, bd_s]
        unfold fX2_begin_64
        dsimp only [Int.reduceAdd]
        by_cases neg : v0 862 (34 * i + j) < 0
        · rw [if_neg (show ¬ 0 ≤ v0 862 (34 * i + j) by omega)] at ec
          rw [if_pos neg, ck_t (by omega), lt_d, lt_d, y2, wr_id (by omega), wr_id (by omega)]
          refine ⟨_, rfl, by omega, fun a k n => (up_n n).trans (y1 a k n), ?_⟩
          rw [up_s ⟨rfl, rfl⟩, ec]
        · rw [if_pos (show 0 ≤ v0 862 (34 * i + j) by omega)] at ec
          rw [if_neg neg, ck_t (by omega), lt_d, lt_d, y2, wr_id (by omega), wr_id (by omega)]
          refine ⟨_, rfl, by omega, fun a k n => (up_n n).trans (y1 a k n), ?_⟩
          rw [up_s ⟨rfl, rfl⟩, ec]) (fun n' y _ => by
        rw [fX2_begin_38, if_pos (by omega), lt_d, wr_id (by omega)]) j.toNat fu_ 0 x ⟨by omega, fun _ _ _ => rfl, x1.2.2⟩ (by omega) (by unfold fu_; omega)
      refine ⟨y, e, by omega, fun a k q1 q2 q3 => ?_, fun k k0 k1 => ?_⟩
      · rw [y1 _ _ (by omega), x0 _ _ (by omega) (by omega) (by omega)]
        exact b1 a k q1 q2 q3
      · by_cases c : k = j
        · rw [c, y1 195 j (by omega), y1 197 j (by omega), y2]
          exact ⟨x1.1, x1.2.1, rfl⟩
        · rw [y1 195 k (by omega), y1 197 k (by omega), y1 198 k (by omega), x0 195 k (by omega) (by omega) (by omega), x0 197 k (by omega) (by omega) (by omega), x0 198 k (by omega) (by omega) (by omega)]
          exact b2 k k0 (by omega)) (fun n b h => by
      have hsz : b (200 + 75 * t) 3 = m := by rw [h.2.1 _ _ (by omega) (by omega) (by omega), up_n (by omega)]; exact hz.1
      rw [fX2_begin_7, hsz, if_pos (by omega)]) m.toNat fu_ 0 (up_ c0 194 5 0) ⟨by decide, fun _ _ _ _ _ => rfl, fun k k0 k1 => by omega⟩ (by omega) (by unfold fu_; omega)
    exact ⟨b, e, fun a k n q1 q2 q3 => (b1 a k q1 q2 q3).trans (up_n n), by rw [b1 _ _ (by decide) (by decide) (by decide), up_s ⟨rfl, rfl⟩], b2⟩
  -- the reference begins
  have rbeg : ∃ b, fX12_laysTrace 814 t v0 = fX12_laysTrace_39 fu_ 814 t m 0 b ∧ (∀ a k, a ≠ 858 → b a k = v0 a k) ∧ (∀ k, ¬ (34 * t ≤ k ∧ k < 34 * t + 34) → b 858 k = v0 858 k) ∧ ∀ j, 0 ≤ j → j < m → b 858 (34 * t + j) = -1 := by
    unfold fX12_laysTrace
    obtain ⟨b, e, -, b1, b2, b3⟩ := lp_s (σ := V_) (F := fun n j b => fX12_laysTrace_2 n 814 t j b) (K := fun b => fX12_laysTrace_39 fu_ 814 t m 0 b) (e := m) (I := fun j b => 0 ≤ j ∧ (∀ a k, a ≠ 858 → b a k = v0 a k) ∧ (∀ k, ¬ (34 * t ≤ k ∧ k < 34 * t + 34) → b 858 k = v0 858 k) ∧ ∀ k, 0 ≤ k → k < j → b 858 (34 * t + k) = -1) (fun n j b h hj => by
      obtain ⟨j0, b1, b2, b3⟩ := h
      have e848 : b (814 + 34) t = m := (b1 _ _ (by decide)).trans hz.2
      rw [fX12_laysTrace_2, ck_t ht, e848, if_neg (by omega), wr_id (show -2147483648 ≤ 34 * t ∧ 34 * t < 2147483648 by omega), wr_id (show -2147483648 ≤ 34 * t + j ∧ 34 * t + j < 2147483648 by omega), ck_t (by omega), lt_d, lt_d, wr_id (by omega)]
      dsimp only [Int.reduceAdd]
      refine ⟨_, rfl, by omega, fun a k q => (up_n (by omega)).trans (b1 a k q), fun k q => (up_n (by omega)).trans (b2 k q), fun k k0 k1 => ?_⟩
      by_cases c : k = j
      · rw [c, up_s ⟨rfl, rfl⟩]
      · rw [up_n (by omega)]; exact b3 k k0 (by omega)) (fun n b h => by
      have e848 : b (814 + 34) t = m := (h.2.1 _ _ (by decide)).trans hz.2
      rw [fX12_laysTrace_2, ck_t ht, e848, if_pos (by omega), ck_t ht, lt_d]) m.toNat fu_ 0 v0 ⟨by decide, fun _ _ _ => rfl, fun _ _ => rfl, fun k k0 k1 => by omega⟩ (by omega) (by unfold fu_; omega)
    exact ⟨b, e, b1, b2, b3⟩
  obtain ⟨b, e1, b1, b2, b3⟩ := beg
  obtain ⟨r, f1, r1, r2, r3⟩ := rbeg
  have init : LY_ t m (-1) 0 c0 v0 (cp_ b 193 0 199 0 4) (zf_ r 863 0 4) := by
    have C : ∀ a k, a ≠ 199 → cp_ b 193 0 199 0 4 a k = b a k := fun a k q => cp_o (by omega)
    have Z : ∀ a k, a ≠ 863 → zf_ r 863 0 4 a k = r a k := fun a k q => zf_o (by omega)
    refine ⟨fun a k q q2 => by rw [C _ _ (by omega)]; exact b1 a k q (by omega) (by omega) (by omega), fun a k q q2 => by rw [Z _ _ q2]; exact r1 a k q, fun k q => by rw [Z _ _ (by decide)]; exact r2 k q, ⟨by rw [C _ _ (by decide)]; exact b2, by omega, by omega⟩, fun j j0 j1 => ?_, fun j j0 j1 => ?_, fun j j0 j1 => ?_, fun k k0 k1 => ?_, fun i j i0 i1 j1 hn hj => ?_, ⟨fun q q0 q1 => by omega, fun j j0 j1 hj => ?_⟩, ?_⟩
    · rw [C _ _ (by decide), Z _ _ (by decide), (b3 j j0 j1).1, r3 j j0 j1]
      decide
    · rw [C _ _ (by decide), (b3 j j0 j1).2.2]
      refine ct_congr _ fun i i0 i1 => ?_
      unfold wt_
      rw [Z _ _ (by decide), r3 i i0 (by omega)]
      by_cases c : 0 ≤ v0 862 (34 * i + j)
      · rw [if_pos c, if_pos ⟨c, rfl⟩]
      · rw [if_neg c, if_neg (fun q => c q.1)]
    · rw [C _ _ (by decide), (b3 j j0 j1).2.1]
      refine ⟨by decide, fun i i0 i1 hn hi => ?_, Or.inl rfl⟩
      rw [Z _ _ (by decide), r3 i i0 (by omega)] at hi
      omega
    · rw [show zf_ r 863 0 4 863 k = 0 from zf_i ⟨rfl, k0, by omega⟩, cp_i ⟨rfl, k0, by omega⟩, show (0 : Int) + (k - 0) = k by omega, b1 _ _ (by omega) (by decide) (by decide) (by decide), (hU k k0 k1).1]
      omega
    · rw [Z _ _ (by decide), r3 j (by omega) j1] at hj
      omega
    · rw [Z _ _ (by decide), r3 j j0 j1] at hj
      omega
    · have z858 : zf_ r 863 0 4 858 = r 858 := funext fun k => Z _ _ (by decide)
      have all1 : ∀ n : Nat, (n : Int) ≤ m → ct_ (nl1_ (zf_ r 863 0 4) t) n = n := by
        intro n
        induction n with
        | zero => exact fun _ => rfl
        | succ n ih =>
          intro hn
          simp only [ct_]
          rw [ih (by omega)]
          unfold nl1_
          rw [z858, if_pos (r3 n (by omega) (by omega))]
          omega
      rw [all1 m.toNat (by omega)]
      omega
  obtain ⟨wc, w, l, s1, s2, s3, s4⟩ := outer_T hG 300 fu_ fu_ 0 (-1) 0 b r init (by decide) (by decide) (by decide) (by decide) (by decide) (by decide) (by decide)
  obtain ⟨y1, y2, y3, y4, y5, y6, y7, y8, y9, ⟨y10, y10b⟩, y11⟩ := id s3
  have C : ∀ a k, a ≠ 199 → cp_ wc 193 0 199 0 4 a k = wc a k := fun a k q => cp_o (by omega)
  have Z : ∀ a k, a ≠ 863 → zf_ w 863 0 4 a k = w a k := fun a k q => zf_o (by omega)
  have hlaid : ∀ j, 0 ≤ j → j < m → wc 195 j = w 858 (34 * t + j) ∧ 0 ≤ w 858 (34 * t + j) ∧ w 858 (34 * t + j) < 300 := fun j j0 j1 => by
    have a := LY_none s3 rfl ⟨j0, j1⟩
    have b := y5 j j0 j1
    rw [C _ _ (by decide), Z _ _ (by decide)] at b
    rw [Z _ _ (by decide)] at a
    omega
  have hsz : wc (200 + 75 * t) 3 = m := by
    have := y1 (200 + 75 * t) 3 (by omega) (by omega)
    rw [C _ _ (by omega)] at this
    exact this.trans hz.1
  refine ⟨wc, w, ?_, ?_, ⟨hlaid, fun i j i0 i1 j1 hn => ?_, fun q q0 q1 => ?_, fun j j0 j1 => ?_⟩, fun a k q q2 => ?_, fun a k q q2 => ?_, fun k q => ?_⟩
  · unfold fX2_lay
    rw [e1, bd_s]
    try dsimp only
    rw [s1]
    unfold fX2_lay_90
    rw [hsz, if_neg (by omega), wr_id (show -2147483648 ≤ m - 1 ∧ m - 1 < 2147483648 by omega), ck_t (by omega)]
    have := hlaid (m - 1) (by omega) (by omega)
    dsimp only [Int.reduceAdd]
    rw [this.1, wr_id (by omega)]
  · rw [f1]
    rw [show m - 0 = m by omega] at s2
    exact s2
  · have := y9 i j i0 i1 j1 hn
    rw [Z _ _ (by decide), Z _ _ (by decide)] at this
    exact (this (hlaid j (by omega) j1).2.1).2
  · have o := y10 q q0 q1
    simp only [C _ _ (show (196 : Int) ≠ 199 by decide), Z _ _ (show (858 : Int) ≠ 863 by decide)] at o
    exact ⟨o.1, o.2.2⟩
  · obtain ⟨q, q0, q1, q2⟩ := y10b j j0 j1 (by rw [Z _ _ (by decide)]; exact (hlaid j j0 j1).2.1)
    exact ⟨q, q0, q1, by rw [← q2, C _ _ (by decide)]⟩
  · have := y1 a k q q2
    rw [C _ _ (by omega)] at this
    exact this
  · have := y2 a k q q2
    rw [Z _ _ q2] at this
    exact this
  · have := y3 k q
    rw [Z _ _ (by decide)] at this
    exact this
end LAY
