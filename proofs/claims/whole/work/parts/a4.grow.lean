/-! layer 2: traces grow -/
/-- trace t under way, of m blocks -/
def TS_ (g : V_) (t m : Int) (vc vr : V_) : Prop := (∀ b, 0 ≤ b → b < 8 → vc 191 b = vr 844 b ∧ -1 ≤ vr 844 b ∧ vr 844 b ≤ t) ∧ vc (200 + 75 * t) 1 = m ∧ vr 847 t = m ∧ vr 814 52 = t ∧ (∀ i, 0 ≤ i → i < m → vc (201 + 75 * t) i = vr 846 (4 * t + i) ∧ 0 ≤ vr 846 (4 * t + i) ∧ vr 846 (4 * t + i) < g 0 0 ∧ vr 844 (vr 846 (4 * t + i)) = t ∧ ∀ j, 0 ≤ j → j < i → vr 846 (4 * t + j) ≠ vr 846 (4 * t + i)) ∧ (∀ b, 0 ≤ b → b < g 0 0 → vr 844 b = t → ∃ i, 0 ≤ i ∧ i < m ∧ vr 846 (4 * t + i) = b) ∧ ∀ i, 0 ≤ i → i + 1 < m → g 7 (vr 846 (4 * t + i)) ≠ 2
def Gf_ (t : Int) (vc vr wc wr : V_) : Prop := (∀ a k, ¬ (a = 200 + 75 * t ∧ k = 1) → a ≠ 201 + 75 * t → a ≠ 191 → wc a k = vc a k) ∧ (∀ a k, a ≠ 844 → a ≠ 846 → a ≠ 847 → wr a k = vr a k) ∧ (∀ k, ¬ (4 * t ≤ k ∧ k < 4 * t + 4) → wr 846 k = vr 846 k) ∧ (∀ k, k ≠ t → wr 847 k = vr 847 k) ∧ ∀ b, wr 844 b = vr 844 b ∨ (vr 844 b = -1 ∧ wr 844 b = t)
theorem Gf_rfl {t : Int} {vc vr : V_} : Gf_ t vc vr vc vr := ⟨fun _ _ _ _ _ => rfl, fun _ _ _ _ _ => rfl, fun _ _ => rfl, fun _ _ => rfl, fun _ => Or.inl rfl⟩
theorem Gf_tr {t : Int} {vc vr uc ur wc wr : V_} (ht : t ≠ -1) (h : Gf_ t vc vr uc ur) (h2 : Gf_ t uc ur wc wr) : Gf_ t vc vr wc wr := by
  obtain ⟨a1, a2, a3, a4, a5⟩ := h
  obtain ⟨b1, b2, b3, b4, b5⟩ := h2
  refine ⟨fun a k q q2 q3 => (b1 a k q q2 q3).trans (a1 a k q q2 q3), fun a k q q2 q3 => (b2 a k q q2 q3).trans (a2 a k q q2 q3), fun k q => (b3 k q).trans (a3 k q), fun k q => (b4 k q).trans (a4 k q), fun b => ?_⟩
  rcases a5 b with e | ⟨e, e2⟩ <;> rcases b5 b with f | ⟨f, f2⟩
  · exact Or.inl (f.trans e)
  · exact Or.inr ⟨by rw [← e]; exact f, f2⟩
  · exact Or.inr ⟨e, f.trans e2⟩
  · omega
theorem rjoin_e {v : V_} {t m b q : Int} (h52 : v 814 52 = t) (ht : 0 ≤ t ∧ t < 8) (hm : v 847 t = m) (h4 : 0 ≤ m ∧ m < 4) (hb : 0 ≤ b ∧ b < 8) (hq : 0 ≤ q ∧ q ≤ m) : ∃ w, fX12_joinsAt 814 q b v = some (0, w) ∧ (∀ i, 0 ≤ i → i ≤ m → w 846 (4 * t + i) = if i < q then v 846 (4 * t + i) else if i = q then b else v 846 (4 * t + (i - 1))) ∧ (∀ k, ¬ (4 * t ≤ k ∧ k < 4 * t + 4) → w 846 k = v 846 k) ∧ (∀ k, w 847 k = if k = t then m + 1 else v 847 k) ∧ (∀ k, w 844 k = if k = b then t else v 844 k) ∧ ∀ a k, a ≠ 844 → a ≠ 846 → a ≠ 847 → w a k = v a k := by
  unfold fX12_joinsAt
  rw [h52, lt_d, ck_t (by omega), show (814 + 33 : Int) = 847 from rfl, hm, lt_d]
  obtain ⟨u, e, -, -, h1, h2, h3⟩ := lp_d (σ := V_) (F := fun n i s => fX12_joinsAt_13 n 814 q b t i s) (K := fun s => some (0, up_ (up_ (up_ s 846 (4 * t + q) b) 847 t (m + 1)) 844 b t)) (e := q) (I := fun i u => q ≤ i ∧ i ≤ m ∧ (∀ a k, a ≠ 846 → u a k = v a k) ∧ (∀ k, ¬ (4 * t + i + 1 ≤ k ∧ k ≤ 4 * t + m) → u 846 k = v 846 k) ∧ ∀ j, i < j → j ≤ m → u 846 (4 * t + j) = v 846 (4 * t + (j - 1))) (fun n i u h hi => by
    obtain ⟨i0, i1, a1, a2, a3⟩ := h
    rw [fX12_joinsAt_13, if_neg (by omega), wr_id (show -2147483648 ≤ 4 * t ∧ 4 * t < 2147483648 by omega), wr_id (show -2147483648 ≤ 4 * t + i ∧ 4 * t + i < 2147483648 by omega), wr_id (show -2147483648 ≤ 4 * t + i - 1 ∧ 4 * t + i - 1 < 2147483648 by omega), ck_t (by omega), ck_t (by omega), lt_d, lt_d, wr_id (by omega), show i + (-1) = i - 1 by omega]
    dsimp only [Int.reduceAdd]
    refine ⟨_, rfl, by omega, by omega, fun a k h => (up_n (by omega)).trans (a1 a k h), fun k h => ?_, fun j h h2 => ?_⟩
    · rw [up_n (by omega)]
      exact a2 k (by omega)
    · by_cases c : j = i
      · rw [up_s ⟨rfl, by omega⟩, a2 _ (by omega), c]
        congr 1
        omega
      · rw [up_n (by omega)]
        exact a3 j (by omega) h2) (fun n u h => by
    obtain ⟨-, -, a1, -, -⟩ := h
    rw [fX12_joinsAt_13, if_pos (by omega), wr_id (show -2147483648 ≤ 4 * t ∧ 4 * t < 2147483648 by omega), wr_id (show -2147483648 ≤ 4 * t + q ∧ 4 * t + q < 2147483648 by omega), ck_t (by omega), lt_d, ck_t (by omega), ck_t (by omega), lt_d, ck_t (by omega), lt_d]
    dsimp only [Int.reduceAdd]
    rw [up_n (show ¬ ((847 : Int) = 846 ∧ t = 4 * t + q) by omega), a1 _ _ (by decide), hm, wr_id (by omega)]) (m - q).toNat fu_ m v ⟨by omega, by omega, fun _ _ _ => rfl, fun _ _ => rfl, fun j h h2 => by omega⟩ (by omega) (by unfold fu_; omega)
  refine ⟨_, e, fun i i0 i1 => ?_, fun k h => ?_, fun k => ?_, fun k => ?_, fun a k q1 q2 q3 => ?_⟩
  · rw [up_n (by omega), up_n (by omega)]
    by_cases c : i < q
    · rw [if_pos c, up_n (by omega)]
      exact h2 _ (by omega)
    · rw [if_neg c]
      by_cases c2 : i = q
      · rw [if_pos c2, up_s ⟨rfl, by omega⟩]
      · rw [if_neg c2, up_n (by omega)]
        exact h3 i (by omega) i1
  · rw [up_n (by omega), up_n (by omega), up_n (by omega)]
    exact h2 k (by omega)
  · rw [up_n (by omega)]
    by_cases c : k = t
    · rw [up_s ⟨rfl, c⟩, if_pos c]
    · rw [up_n (by omega), up_n (by omega), if_neg c]
      exact h1 _ _ (by decide)
  · by_cases c : k = b
    · rw [up_s ⟨rfl, c⟩, if_pos c]
    · rw [up_n (by omega), up_n (by omega), up_n (by omega), if_neg c]
      exact h1 _ _ (by decide)
  · rw [up_n (by omega), up_n (by omega), up_n (by omega)]
    exact h1 _ _ q2
theorem cpre_e {v : V_} {x m b : Int} (hm : v x 1 = m) (h4 : 1 ≤ m ∧ m < 4) : ∃ w, fX10_growAtBeginning x b v = some (0, w) ∧ (∀ i, 0 ≤ i → i ≤ m → w (x + 1) i = if i = 0 then b else v (x + 1) (i - 1)) ∧ w x 1 = m + 1 ∧ ∀ a k, ¬ (a = x ∧ k = 1) → a ≠ x + 1 → w a k = v a k := by
  unfold fX10_growAtBeginning
  rw [hm, if_neg (by omega), lt_d]
  obtain ⟨u, e, -, -, h1, h2, h3⟩ := lp_d (σ := V_) (F := fun n i s => fX10_growAtBeginning_13 n x b i s) (K := fun s => some (0, up_ (up_ s (x + 1) 0 b) x 1 (m + 1))) (e := 0) (I := fun i u => 0 ≤ i ∧ i ≤ m ∧ (∀ a k, a ≠ x + 1 → u a k = v a k) ∧ (∀ k, ¬ (i + 1 ≤ k ∧ k ≤ m) → u (x + 1) k = v (x + 1) k) ∧ ∀ j, i < j → j ≤ m → u (x + 1) j = v (x + 1) (j - 1)) (fun n i u h hi => by
    obtain ⟨i0, i1, a1, a2, a3⟩ := h
    rw [fX10_growAtBeginning_13, if_neg (by omega), wr_id (show -2147483648 ≤ i - 1 ∧ i - 1 < 2147483648 by omega), ck_t (by omega), ck_t (by omega), lt_d, lt_d, wr_id (by omega), show i + (-1) = i - 1 by omega]
    refine ⟨_, rfl, by omega, by omega, fun a k h => (up_n (by omega)).trans (a1 a k h), fun k h => ?_, fun j h h2 => ?_⟩
    · rw [up_n (by omega)]
      exact a2 k (by omega)
    · by_cases c : j = i
      · rw [up_s ⟨rfl, c⟩, a2 _ (by omega), c]
      · rw [up_n (by omega)]
        exact a3 j (by omega) h2) (fun n u h => by
    obtain ⟨-, -, a1, -, -⟩ := h
    rw [fX10_growAtBeginning_13, if_pos (by omega), lt_d, lt_d, up_n (by omega), a1 _ _ (by omega), hm, wr_id (by omega)]) m.toNat fu_ m v ⟨by omega, by omega, fun _ _ _ => rfl, fun _ _ => rfl, fun j h h2 => by omega⟩ (by omega) (by unfold fu_; omega)
  refine ⟨_, e, fun i i0 i1 => ?_, up_s ⟨rfl, rfl⟩, fun a k q1 q2 => ?_⟩
  · rw [up_n (by omega)]
    by_cases c : i = 0
    · rw [if_pos c, up_s ⟨rfl, c⟩]
    · rw [if_neg c, up_n (by omega)]
      exact h3 i (by omega) i1
  · rw [up_n q1, up_n (by omega)]
    exact h1 _ _ q2
/-- one block more, at place q, in both -/
theorem TS_add {g : V_} {t m b q : Int} {vc vr wc : V_} (hn : g 0 0 ≤ 8) (h : TS_ g t m vc vr) (ht : 0 ≤ t ∧ t < 8) (h4 : 0 ≤ m ∧ m < 4) (hb : 0 ≤ b ∧ b < g 0 0) (hf : vr 844 b = -1) (hq : 0 ≤ q ∧ q ≤ m) (hs : (q = 0 ∧ g 7 b ≠ 2) ∨ (q = m ∧ (1 ≤ m → g 7 (vr 846 (4 * t + (m - 1))) ≠ 2))) (c1 : ∀ i, 0 ≤ i → i ≤ m → wc (201 + 75 * t) i = if i < q then vc (201 + 75 * t) i else if i = q then b else vc (201 + 75 * t) (i - 1)) (c2 : wc (200 + 75 * t) 1 = m + 1) (c3 : ∀ k, wc 191 k = if k = b then t else vc 191 k) (c4 : ∀ a k, ¬ (a = 200 + 75 * t ∧ k = 1) → a ≠ 201 + 75 * t → a ≠ 191 → wc a k = vc a k) : ∃ wr, fX12_joinsAt 814 q b vr = some (0, wr) ∧ TS_ g t (m + 1) wc wr ∧ Gf_ t vc vr wc wr := by
  obtain ⟨a1, a2, a3, a4, a5, a6, a7⟩ := h
  obtain ⟨wr, e, w1, w2, w3, w4, w5⟩ := rjoin_e (b := b) (q := q) a4 ht a3 h4 (by omega) hq
  have mem : ∀ i, 0 ≤ i → i ≤ m → (i = q ∧ wr 846 (4 * t + i) = b) ∨ (∃ j, 0 ≤ j ∧ j < m ∧ (j = i ∨ j = i - 1) ∧ (i < q ↔ j = i) ∧ i ≠ q ∧ wr 846 (4 * t + i) = vr 846 (4 * t + j) ∧ wc (201 + 75 * t) i = vc (201 + 75 * t) j) := fun i i0 i1 => by
    rw [w1 i i0 i1, c1 i i0 i1]
    by_cases c : i < q
    · rw [if_pos c, if_pos c]
      exact Or.inr ⟨i, i0, by omega, Or.inl rfl, by omega, by omega, rfl, rfl⟩
    · rw [if_neg c, if_neg c]
      by_cases d : i = q
      · rw [if_pos d]
        exact Or.inl ⟨d, rfl⟩
      · rw [if_neg d, if_neg d]
        exact Or.inr ⟨i - 1, by omega, by omega, Or.inr rfl, by omega, d, rfl, rfl⟩
  have nb : ∀ j, 0 ≤ j → j < m → vr 846 (4 * t + j) ≠ b := fun j j0 j1 f => by
    have := (a5 j j0 j1).2.2.2.1
    rw [f, hf] at this
    omega
  have dist : ∀ i j, 0 ≤ i → i < m → 0 ≤ j → j < m → i ≠ j → vr 846 (4 * t + j) ≠ vr 846 (4 * t + i) := fun i j i0 i1 j0 j1 hne => by
    by_cases c : j < i
    · exact (a5 i i0 i1).2.2.2.2 j j0 c
    · exact fun f => (a5 j j0 j1).2.2.2.2 i i0 (by omega) f.symm
  refine ⟨wr, e, ⟨fun c k0 k1 => ?_, c2, by rw [w3, if_pos rfl], (w5 _ _ (by decide) (by decide) (by decide)).trans a4, fun i i0 i1 => ?_, fun c k0 k1 hc => ?_, fun i i0 i1 => ?_⟩, c4, fun a k q1 q2 q3 => w5 a k q1 q2 q3, w2, fun k h => by rw [w3, if_neg h], fun c => ?_⟩
  · rw [c3, w4]
    have := a1 c k0 k1
    split <;> omega
  · rcases mem i i0 (by omega) with ⟨d, e2⟩ | ⟨j, j0, j1, j2, j3, j4, e2, e3⟩
    · refine ⟨?_, by rw [e2]; exact hb.1, by rw [e2]; exact hb.2, by rw [e2, w4, if_pos rfl], fun k k0 k1 => ?_⟩
      · rw [e2, c1 i i0 (by omega), if_neg (by omega), if_pos d]
      · rw [e2]
        rcases mem k k0 (by omega) with ⟨d2, -⟩ | ⟨j, j0, j1, -, -, -, e4, -⟩
        · omega
        · rw [e4]; exact nb j j0 j1
    · obtain ⟨x1, x2, x3, x4, -⟩ := a5 j j0 j1
      have x5 := nb j j0 j1
      refine ⟨by rw [e2, e3]; exact x1, by rw [e2]; exact x2, by rw [e2]; exact x3, by rw [e2, w4, if_neg x5]; exact x4, fun k k0 k1 => ?_⟩
      rw [e2]
      rcases mem k k0 (by omega) with ⟨d2, e4⟩ | ⟨j', j0', j1', j2', j3', j4', e4, -⟩
      · rw [e4]; exact fun f => x5 f.symm
      · rw [e4]
        exact dist j j' j0 j1 j0' j1' (by omega)
  · rw [w4] at hc
    by_cases d : c = b
    · refine ⟨q, hq.1, by omega, ?_⟩
      rw [w1 q hq.1 hq.2, if_neg (by omega), if_pos rfl, d]
    · rw [if_neg d] at hc
      obtain ⟨i, i0, i1, i2⟩ := a6 c k0 k1 hc
      by_cases l : i < q
      · refine ⟨i, i0, by omega, ?_⟩
        rw [w1 i i0 (by omega), if_pos l]
        exact i2
      · refine ⟨i + 1, by omega, by omega, ?_⟩
        rw [w1 (i + 1) (by omega) (by omega), if_neg (by omega), if_neg (by omega), show i + 1 - 1 = i by omega]
        exact i2
  · rcases hs with ⟨s1, s2⟩ | ⟨s1, s2⟩
    · by_cases c : i = 0
      · rw [w1 i i0 (by omega), if_neg (by omega), if_pos (by omega)]
        exact s2
      · rw [w1 i i0 (by omega), if_neg (by omega), if_neg (by omega)]
        exact a7 (i - 1) (by omega) (by omega)
    · rw [w1 i i0 (by omega), if_pos (by omega)]
      by_cases c : i = m - 1
      · rw [c]
        exact s2 (by omega)
      · exact a7 i i0 (by omega)
  · rw [w4]
    by_cases d : c = b
    · rw [if_pos d]
      exact Or.inr ⟨by rw [d]; exact hf, rfl⟩
    · rw [if_neg d]
      exact Or.inl rfl
theorem GfC {g : V_} {t p : Int} {vc vr wc wr : V_} (hw : WF_ g) (ht : 0 ≤ t ∧ t < 8) (h : Gf_ t vc vr wc wr) (hC : C_ vc p g) : C_ wc p g := C_fr hw hC (fun a k a0 a1 => h.1 a k (by omega) (by omega) (by omega)) (fun k _ _ => h.1 _ k (by omega) (by omega) (by omega))
theorem GfD {g : V_} {t : Int} {vc vr wc wr : V_} (h : Gf_ t vc vr wc wr) (hD : D_ vr g) : D_ wr g := D_fr hD (h.2.1 _ _ (by omega) (by omega) (by omega)) (fun a k a0 a1 => h.2.1 _ _ (by omega) (by omega) (by omega)) (fun k _ _ => h.2.1 _ _ (by omega) (by omega) (by omega))
/-- at the end -/
theorem gend_T {g : V_} {p t : Int} (hw : WF_ g) (hg : RG_ g) (ht : 0 ≤ t ∧ t < 8) (k : Int → Int → V_ → Option (Int × V_)) : ∀ (d n n2 : Nat) (m : Int) (vc vr : V_), C_ vc p g → D_ vr g → TS_ g t m vc vr → 1 ≤ m → 4 = m + d → d < n → d + 1 < n2 → ∃ vc' vr' m', fX4_growAtEnd_3 n 189 (200 + 75 * t) t p 140 m vc = some (0, vc') ∧ fX12_fillsTraces_50 k n2 814 1 vr = fX12_fillsTraces_77 k fu_ 814 1 vr' ∧ TS_ g t m' vc' vr' ∧ m ≤ m' ∧ m' ≤ 4 ∧ Gf_ t vc vr vc' vr' := by
  have hn := hw.1
  intro d
  induction d with
  | zero =>
    intro n n2 m vc vr hC hD hT h1 h4 hn0 hn2
    obtain ⟨n, rfl⟩ : ∃ k, n = k + 1 := ⟨n - 1, by omega⟩
    obtain ⟨n2, rfl⟩ : ∃ k, n2 = k + 1 := ⟨n2 - 1, by omega⟩
    refine ⟨vc, vr, m, by rw [fX4_growAtEnd_3, if_pos (by omega)], ?_, hT, by omega, by omega, Gf_rfl⟩
    have e3 := hT.2.2.1
    have e4 := hT.2.2.2.1
    rw [fX12_fillsTraces_50, if_neg n10_, e4, ck_t ht, show (814 + 33 : Int) = 847 from rfl, e3, if_pos (by omega)]
  | succ d ih =>
    intro n n2 m vc vr hC hD hT h1 h4 hn0 hn2
    obtain ⟨n, rfl⟩ : ∃ k, n = k + 1 := ⟨n - 1, by omega⟩
    obtain ⟨n2, rfl⟩ : ∃ k, n2 = k + 1 := ⟨n2 - 1, by omega⟩
    obtain ⟨t1, t2, t3, t4, t5, t6, t7⟩ := id hT
    obtain ⟨x1, x2, x3, x4, -⟩ := t5 (m - 1) (by omega) (by omega)
    generalize eL : vr 846 (4 * t + (m - 1)) = L at x1 x2 x3 x4
    have hL : 0 ≤ L ∧ L < g 0 0 := ⟨x2, x3⟩
    have stop : (∃ vc' vr' m', (some (0, vc) : Option (Int × V_)) = some (0, vc') ∧ fX12_fillsTraces_50 k n2 814 0 vr = fX12_fillsTraces_77 k fu_ 814 1 vr' ∧ TS_ g t m' vc' vr' ∧ m ≤ m' ∧ m' ≤ 4 ∧ Gf_ t vc vr vc' vr') := by
      obtain ⟨n2, rfl⟩ : ∃ k, n2 = k + 1 := ⟨n2 - 1, by omega⟩
      exact ⟨vc, vr, m, rfl, by rw [fX12_fillsTraces_50, if_pos rfl], hT, by omega, by omega, Gf_rfl⟩
    have eb : fX10_lastBlock (200 + 75 * t) vc = some (L, vc) := by
      unfold fX10_lastBlock
      rw [t2, if_neg (by omega), if_neg (by omega), wr_id (by omega), ck_t (by omega), show 200 + 75 * t + 1 = 201 + 75 * t by omega, x1]
    rw [fX4_growAtEnd_3, if_neg (by omega), eb, bd_s, cway_e hw hC hL, bd_s, fX12_fillsTraces_50, if_neg n10_, t4, ck_t ht, show (814 + 33 : Int) = 847 from rfl, t3, if_neg (show ¬ 4 ≤ m by omega)]
    unfold fX12_growsBehind
    rw [t4, wr_id (show -2147483648 ≤ 4 * t ∧ 4 * t < 2147483648 by omega), ck_t ht, show (814 + 33 : Int) = 847 from rfl, t3, wr_id (show -2147483648 ≤ 4 * t + m ∧ 4 * t + m < 2147483648 by omega), wr_id (show -2147483648 ≤ 4 * t + m - 1 ∧ 4 * t + m - 1 < 2147483648 by omega), ck_t (by omega), lt_d, show (814 + 32 : Int) = 846 from rfl, show 4 * t + m - 1 = 4 * t + (m - 1) by omega, eL, rway_e hw hD hL, bd_s]
    try dsimp only
    unfold fX4_growAtEnd_43
    rcases mw_ok hw hL with ⟨w1, -⟩ | ⟨w1, w2, w3, w4⟩
    · rw [if_pos w1, if_pos (by decide), if_pos (show mw_ g L < 0 by omega), bd_s]
      exact stop
    · have hl2 : g 7 L ≠ 2 := fun e => by unfold mw_ at w1; rw [if_pos e] at w1; exact absurd w1 (by decide)
      have hnx : 0 ≤ g 10 (2 * L + mw_ g L) ∧ g 10 (2 * L + mw_ g L) < g 0 0 := ⟨w3, w4⟩
      generalize ew : mw_ g L = w at *
      generalize en : g 10 (2 * L + w) = nx at *
      have l1 := leadsTo_e hw hC hL ⟨w1, w2⟩
      have l2 := wayTo_e hD (show 0 ≤ L ∧ L < 8 by omega) ⟨w1, w2⟩
      rw [en] at l1 l2
      rw [if_neg (by omega), l1, bd_s, if_neg (show ¬ w < 0 by omega), l2, bd_s]
      try dsimp only
      rw [if_neg (by omega), ck_t (by omega), ck_t (by omega), show (189 + 2 : Int) = 191 from rfl, show (814 + 30 : Int) = 844 from rfl]
      obtain ⟨q1, q2, q3⟩ := t1 nx (by omega) (by omega)
      by_cases c : vr 844 nx = -1
      · rw [if_pos (q1.trans c), if_neg (show ¬ 0 ≤ vr 844 nx by omega)]
        obtain ⟨cm, e1, e2⟩ := ccome_e (to := nx) hw hg hC
        obtain ⟨r, f1, f2⟩ := oft_e hw hD hL ⟨w1, w2⟩ en w3
        rw [e1, bd_s, f1, bd_s]
        try dsimp only
        -- the way itself is one of those that come
        have hcm : 0 ≤ cm ∧ cm < 2 * g 0 0 ∧ g 10 cm = nx ∧ ∀ k, 0 ≤ k → k < 2 * g 0 0 → g 10 k = nx → g 11 (22 + k) ≤ g 11 (22 + cm) := by
          rcases e2 with ⟨-, c2⟩ | ⟨c1, c2, c3, c4⟩
          · exact absurd en (c2 _ (by omega) (by omega))
          · exact ⟨c1, c2, c3, fun k k0 k1 k2 => (c4 k k0 k1 k2).1⟩
        obtain ⟨u1, u2, u3, u4⟩ := hcm
        have ed : Int.tdiv cm 2 = cm / 2 := Int.tdiv_eq_ediv_of_nonneg u1
        have em : Int.tmod cm 2 = cm % 2 := Int.tmod_eq_emod_of_nonneg u1
        rw [if_neg (by omega), ed, em, wr_id (by omega), cgone_e hC (by omega) (by omega), bd_s, cgone_e hC (by omega) ⟨w1, w2⟩, bd_s, show 2 * (cm / 2) + cm % 2 = cm by omega]
        try dsimp only
        by_cases l : g 11 (22 + cm) ≤ g 11 (22 + (2 * L + w))
        · have r1 : r = 1 := by
            rcases f2 with ⟨f2, -⟩ | ⟨-, k, k0, k1, k2, k3⟩
            · exact f2
            · have := u4 k k0 k1 k2
              omega
          rw [if_pos l, if_neg (show ¬ r = 0 by omega), ck_t (by omega), l2, bd_s]
          try dsimp only [Int.reduceAdd]
          rw [show vr 847 (vr 814 52) = m by rw [t4]; exact t3]
          unfold fX4_growAtEnd_104 fX10_growAtEnd
          rw [t2, if_neg (by omega), ck_t (by omega), lt_d, lt_d, bd_s, ck_t (by omega), lt_d, lt_d, up_n (show ¬ (200 + 75 * t = 200 + 75 * t + 1 ∧ 1 = m) by omega), t2, wr_id (show -2147483648 ≤ m + 1 ∧ m + 1 < 2147483648 by omega), show 200 + 75 * t + 1 = 201 + 75 * t by omega]
          try dsimp only [Int.reduceAdd]
          obtain ⟨wr, j1, j2, j3⟩ := TS_add (wc := up_ (up_ (up_ vc (201 + 75 * t) m nx) (200 + 75 * t) 1 (m + 1)) 191 nx t) (b := nx) (q := m) hn.2 hT ht ⟨by omega, by omega⟩ hnx c ⟨by omega, by omega⟩ (Or.inr ⟨rfl, fun _ => by rw [eL]; exact hl2⟩) (fun i i0 i1 => by
            rw [up_n (by omega), up_n (by omega)]
            by_cases d : i < m
            · rw [if_pos d, up_n (by omega)]
            · rw [if_neg d, if_pos (by omega), up_s ⟨rfl, by omega⟩]) (by rw [up_n (by omega), up_s ⟨rfl, rfl⟩]) (fun k => by
            by_cases d : k = nx
            · rw [if_pos d, up_s ⟨rfl, d⟩]
            · rw [if_neg d, up_n (by omega), up_n (by omega), up_n (by omega)]) (fun a k z1 z2 z3 => by rw [up_n (by omega), up_n (by omega), up_n (by omega)])
          rw [j1, bd_s, bd_s]
          try dsimp only
          obtain ⟨vc', vr', m', s1, s2, s3, s4, s5, s6⟩ := ih n n2 (m + 1) _ wr (GfC hw ht j3 hC) (GfD j3 hD) j2 (by omega) (by omega) (by omega) (by omega)
          exact ⟨vc', vr', m', s1, s2, s3, by omega, s5, Gf_tr (by omega) j3 s6⟩
        · have r0 : r = 0 := by
            rcases f2 with ⟨-, f2⟩ | ⟨f2, -⟩
            · exact absurd (f2 cm u1 u2 u3) l
            · exact f2
          rw [if_neg l, if_pos r0, bd_s]
          exact stop
      · rw [if_neg (by rw [q1]; exact c), if_pos (show 0 ≤ vr 844 nx by omega), bd_s]
        exact stop
