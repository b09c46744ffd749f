/-! layer 2: all items of a trace, in both -/
theorem FgC {g vc wc : V_} {t p : Int} (hw : WF_ g) (ht : 0 ≤ t ∧ t < 8) (hC : C_ vc p g) (h : Fg1_ t vc wc) : C_ wc p g := C_fr hw hC (fun a k a0 a1 => h a k (by omega)) (fun k _ _ => h _ k (by omega))
theorem FgD {g vr wr : V_} {t : Int} (hD : D_ vr g) (h : Fg2_ t vr wr) : D_ wr g := D_fr hD (h.1 _ _ (by omega) (by omega) (by omega)) (fun a k a0 a1 => h.1 _ _ (by omega) (by omega) (by omega)) (fun k _ _ => h.1 _ _ (by omega) (by omega) (by omega))
theorem Fg1_r {t : Int} {u : V_} : Fg1_ t u u := fun _ _ _ => rfl
theorem Fg2_r {t : Int} {u : V_} : Fg2_ t u u := ⟨fun _ _ _ _ _ => rfl, fun _ _ _ _ _ => rfl, fun _ _ => ⟨rfl, rfl⟩⟩
/-- the blocks of trace t, in both -/
def TB_ (g : V_) (t M : Int) (vc vr : V_) : Prop := (1 ≤ M ∧ M ≤ 4) ∧ vc (200 + 75 * t) 1 = M ∧ vr 847 t = M ∧ ∀ i, 0 ≤ i → i < M → vc (201 + 75 * t) i = vr 846 (4 * t + i) ∧ (0 ≤ vr 846 (4 * t + i) ∧ vr 846 (4 * t + i) < g 0 0) ∧ (i + 1 < M → g 7 (vr 846 (4 * t + i)) ≠ 2)
theorem TB_fr {g vc vr wc wr : V_} {t M : Int} (h : TB_ g t M vc vr) (h1 : Fg1_ t vc wc) (h2 : Fg2_ t vr wr) : TB_ g t M wc wr := by
  obtain ⟨a1, a2, a3, a4⟩ := h
  refine ⟨a1, (h1 _ _ (by omega)).trans a2, (h2.1 _ _ (by omega) (by omega) (by omega)).trans a3, fun i i0 i1 => ?_⟩
  rw [h1 _ _ (by omega), h2.1 846 _ (by omega) (by omega) (by omega)]
  exact a4 i i0 i1
def LB_ (g : V_) (L : Int → Int) (p : Int) (vc vr : V_) : Prop := ∀ b, 0 ≤ b → b < g 0 0 → vc (p + 5) b = L b ∧ vr 843 b = L b ∧ r6_ (L b)
theorem LB_fr {g vc vr wc wr : V_} {t p : Int} {L : Int → Int} (ht : 0 ≤ t) (hp : p = 12 ∨ p = 76) (h : LB_ g L p vc vr) (h1 : Fg1_ t vc wc) (h2 : Fg2_ t vr wr) : LB_ g L p wc wr := fun b b0 b1 => by
  rw [h1 _ _ (by omega), h2.1 843 _ (by omega) (by omega) (by omega)]
  exact h b b0 b1
theorem lines_I {g vc vr : V_} {L : Int → Int} {t p pl b m : Int} (hw : WF_ g) (hC : C_ vc p g) (hD : D_ vr g) (ht : 0 ≤ t ∧ t < 8) (hL : LB_ g L p vc vr) (hM4 : vr 847 t ≤ 4) (h : GI_ g L t m (7 * pl) vc vr) (hpl : 0 ≤ pl ∧ pl < 4) (hb : 0 ≤ b ∧ b < g 0 0) (k : Int → Int → Int → Int → V_ → Option (Int × V_)) (k2 : Int → Int → Int → V_ → Option (Int × V_)) : ∃ vc' vr' m', fX10_gather_67 k fu_ (200 + 75 * t) p (if g 11 38 = 1 then 1 else 0) pl b 0 vc = bd_ (fX10_addEnd (200 + 75 * t) p pl vc') (fun q => k (200 + 75 * t) p (if g 11 38 = 1 then 1 else 0) (pl + 1) q.2) ∧ fX12_fillsItems_61 k2 fu_ 814 t pl b 0 vr = (if vr' 847 t ≤ pl + 1 then bd_ (fX12_addsEnd 814 t b (-1) vr') (fun q => k2 814 t (pl + 1) q.2) else bd_ (fX12_addsEnd 814 t b (vr' 846 (4 * t + (pl + 1))) vr') (fun q => k2 814 t (pl + 1) q.2)) ∧ GI_ g L t m' (7 * pl + g 1 b) vc' vr' ∧ Fg1_ t vc vc' ∧ Fg2_ t vr vr' := by
  have hn := hw.1
  have hl6 := (hw.2 b hb.1 hb.2).1
  have hp := hC.1
  obtain ⟨s, e, -, ⟨m', h1⟩, h2, h3⟩ := lp_s (σ := V_ × V_) (α := Option (Int × V_) × Option (Int × V_)) (F := fun n i s => (fX10_gather_67 k n (200 + 75 * t) p (if g 11 38 = 1 then 1 else 0) pl b i s.1, fX12_fillsItems_61 k2 n 814 t pl b i s.2)) (K := fun s => (bd_ (fX10_addEnd (200 + 75 * t) p pl s.1) (fun q => k (200 + 75 * t) p (if g 11 38 = 1 then 1 else 0) (pl + 1) q.2), (if s.2 847 t ≤ pl + 1 then bd_ (fX12_addsEnd 814 t b (-1) s.2) (fun q => k2 814 t (pl + 1) q.2) else bd_ (fX12_addsEnd 814 t b (s.2 846 (4 * t + (pl + 1))) s.2) (fun q => k2 814 t (pl + 1) q.2)))) (e := g 1 b) (I := fun i s => 0 ≤ i ∧ (∃ m, GI_ g L t m (7 * pl + i) s.1 s.2) ∧ Fg1_ t vc s.1 ∧ Fg2_ t vr s.2) (fun n i s h hi => by
    obtain ⟨i0, ⟨m, a1⟩, a2, a3⟩ := h
    have hC1 := FgC hw ht hC a2
    have hD1 := FgD hD a3
    have hL1 := LB_fr ht.1 hp hL a2 a3
    obtain ⟨wc, wr, m', b1, b2, b3, -, b5, b6⟩ := line_I (q := 7 * pl + i) (b := b) (i := i) hw hC1 hD1 ht a1 (fun b b0 b1 => (hL1 b b0 b1).2) (by omega) hb ⟨i0, hi⟩
    obtain ⟨e1, -⟩ := hC1.2.2.1 b hb.1 hb.2
    refine ⟨(wc, wr), ?_, by omega, ⟨m', by rw [show 7 * pl + (i + 1) = 7 * pl + i + 1 by omega]; exact b3⟩, Fg1_tr a2 b5, Fg2_tr a3 b6⟩
    rw [Prod.mk.injEq]
    constructor
    · rw [fX10_gather_67, ck_t (by omega), if_neg (by rw [e1]; omega), wr_id (show -2147483648 ≤ b * 6 ∧ b * 6 < 2147483648 by omega), wr_id (show -2147483648 ≤ b * 6 + i ∧ b * 6 + i < 2147483648 by omega), ck_t (by omega), show (p + 2) + (6 + 1 * (b * 6 + i)) = p + 8 + (6 * b + i) by omega, b1, bd_s, lt_d, wr_id (by omega)]
    · rw [fX12_fillsItems_61, linesOf_e hD1 (by omega), bd_s, if_neg (by dsimp only; omega), lineAt_e hD1 (by omega) (by omega), bd_s, b2, bd_s, lt_d, wr_id (by omega)]) (fun n s h => by
    obtain ⟨i0, -, a2, a3⟩ := h
    have hC1 := FgC hw ht hC a2
    have hD1 := FgD hD a3
    obtain ⟨e1, -⟩ := hC1.2.2.1 b hb.1 hb.2
    rw [Prod.mk.injEq]
    constructor
    · rw [fX10_gather_67, ck_t (by omega), if_pos (by rw [e1]; omega), wr_id (by omega)]
      rfl
    · rw [fX12_fillsItems_61, linesOf_e hD1 (by omega), bd_s, if_pos (by dsimp only; omega), ck_t ht, wr_id (show -2147483648 ≤ pl + 1 ∧ pl + 1 < 2147483648 by omega), wr_id (show -2147483648 ≤ 4 * t ∧ 4 * t < 2147483648 by omega), wr_id (show -2147483648 ≤ 4 * t + pl ∧ 4 * t + pl < 2147483648 by omega), wr_id (show -2147483648 ≤ 4 * t + pl + 1 ∧ 4 * t + pl + 1 < 2147483648 by omega), show 4 * t + pl + 1 = 4 * t + (pl + 1) by omega]
      by_cases c : s.2 847 t ≤ pl + 1
      · rw [if_pos c]
        exact if_pos c
      · have e47 : s.2 847 t = vr 847 t := a3.1 _ _ (by omega) (by omega) (by omega)
        rw [if_neg c, ck_t (by omega)]
        exact if_neg c) (g 1 b).toNat fu_ 0 (vc, vr) ⟨by decide, ⟨m, by rw [Int.add_zero]; exact h⟩, Fg1_r, Fg2_r⟩ (by omega) (by unfold fu_; omega)
  obtain ⟨e1, e2⟩ := Prod.mk.inj e
  exact ⟨s.1, s.2, m', e1, e2, h1, h2, h3⟩
theorem places_I {g : V_} {L : Int → Int} {t p M : Int} (hw : WF_ g) (ht : 0 ≤ t ∧ t < 8) : ∀ (d n : Nat) (pl m : Int) (vc vr : V_), C_ vc p g → D_ vr g → LB_ g L p vc vr → TB_ g t M vc vr → GI_ g L t m (7 * pl) vc vr → 0 ≤ pl → M = pl + 1 + d → d + 1 < n → ∃ vc' vr' m', fX10_gather_48 n (200 + 75 * t) p (if g 11 38 = 1 then 1 else 0) pl vc = some (0, vc') ∧ fX12_fillsItems_37 n 814 t pl vr = some (0, vr') ∧ GF_ g t m' vc' vr' ∧ Fg1_ t vc vc' ∧ Fg2_ t vr vr' := by
  have hn := hw.1
  have start : ∀ (n : Nat) (pl m : Int) (vc vr : V_), C_ vc p g → D_ vr g → LB_ g L p vc vr → TB_ g t M vc vr → GI_ g L t m (7 * pl) vc vr → 0 ≤ pl → pl < M → ∃ vc' vr' m', fX10_gather_48 (n + 1) (200 + 75 * t) p (if g 11 38 = 1 then 1 else 0) pl vc = bd_ (fX10_addEnd (200 + 75 * t) p pl vc') (fun q => fX10_gather_48 n (200 + 75 * t) p (if g 11 38 = 1 then 1 else 0) (pl + 1) q.2) ∧ fX12_fillsItems_37 (n + 1) 814 t pl vr = (if vr' 847 t ≤ pl + 1 then bd_ (fX12_addsEnd 814 t (vr 846 (4 * t + pl)) (-1) vr') (fun q => fX12_fillsItems_37 n 814 t (pl + 1) q.2) else bd_ (fX12_addsEnd 814 t (vr 846 (4 * t + pl)) (vr' 846 (4 * t + (pl + 1))) vr') (fun q => fX12_fillsItems_37 n 814 t (pl + 1) q.2)) ∧ GI_ g L t m' (7 * pl + g 1 (vr 846 (4 * t + pl))) vc' vr' ∧ Fg1_ t vc vc' ∧ Fg2_ t vr vr' := fun n pl m vc vr hC hD hL hT hG p0 p1 => by
    obtain ⟨t1, t2, t3, t4⟩ := id hT
    obtain ⟨x1, x2, x3⟩ := t4 pl p0 p1
    rw [fX10_gather_48, t2, if_neg (show ¬ M ≤ pl by omega), ck_t (show 0 ≤ pl ∧ pl < 4 by omega), show 200 + 75 * t + 1 = 201 + 75 * t by omega, x1, lt_d, fX12_fillsItems_37, ck_t ht, show (814 + 33 : Int) = 847 from rfl, t3, if_neg (show ¬ M ≤ pl by omega), wr_id (show -2147483648 ≤ 4 * t ∧ 4 * t < 2147483648 by omega), wr_id (show -2147483648 ≤ 4 * t + pl ∧ 4 * t + pl < 2147483648 by omega), ck_t (by omega), show (814 + 32 : Int) = 846 from rfl, lt_d]
    exact lines_I hw hC hD ht hL (by omega) hG ⟨p0, by omega⟩ x2 _ _
  intro d
  induction d with
  | zero =>
    intro n pl m vc vr hC hD hL hT hG p0 hM hn0
    obtain ⟨n, rfl⟩ : ∃ k, n = k + 1 + 1 := ⟨n - 2, by omega⟩
    obtain ⟨t1, t2, t3, t4⟩ := id hT
    obtain ⟨x1, x2, x3⟩ := t4 pl p0 (by omega)
    obtain ⟨uc, ur, m1, e1, e2, e3, e4, e5⟩ := start (n + 1) pl m vc vr hC hD hL hT hG p0 (by omega)
    have hl6 := (hw.2 _ x2.1 x2.2).1
    obtain ⟨y1, y2, y3, y4⟩ := TB_fr hT e4 e5
    have b46 : ur 846 (4 * t + pl) = vr 846 (4 * t + pl) := e5.1 _ _ (by omega) (by omega) (by omega)
    obtain ⟨wc, wr, m2, f1, f2, f3, f4, f5⟩ := exit_I (b := vr 846 (4 * t + pl)) hw (FgC hw ht hC e4) (FgD hD e5) ht e3 (by omega) x2 (j := pl) ⟨p0, by omega⟩ (by omega) (by omega) (by rw [(y4 pl p0 (by omega)).1, b46]) b46
    obtain ⟨z1, z2, z3, z4⟩ := TB_fr hT (Fg1_tr e4 f4) (Fg2_tr e5 f5)
    refine ⟨wc, wr, m2, ?_, ?_, f3, Fg1_tr e4 f4, Fg2_tr e5 f5⟩
    · rw [e1, f1, bd_s]
      try dsimp only
      rw [fX10_gather_48, if_pos (show wc (200 + 75 * t) 1 ≤ pl + 1 by rw [z2]; omega)]
    · rw [e2, if_pos (show ur 847 t ≤ pl + 1 by rw [y3]; omega), f2, bd_s]
      try dsimp only
      rw [fX12_fillsItems_37, ck_t ht, if_pos (show wr (814 + 33) t ≤ pl + 1 by rw [show (814 + 33 : Int) = 847 from rfl, z3]; omega)]
  | succ d ih =>
    intro n pl m vc vr hC hD hL hT hG p0 hM hn0
    obtain ⟨n, rfl⟩ : ∃ k, n = k + 1 := ⟨n - 1, by omega⟩
    obtain ⟨t1, t2, t3, t4⟩ := id hT
    obtain ⟨x1, x2, x3⟩ := t4 pl p0 (by omega)
    obtain ⟨uc, ur, m1, e1, e2, e3, e4, e5⟩ := start n pl m vc vr hC hD hL hT hG p0 (by omega)
    have hl6 := (hw.2 _ x2.1 x2.2).1
    obtain ⟨y1, y2, y3, y4⟩ := TB_fr hT e4 e5
    have b46 : ur 846 (4 * t + pl) = vr 846 (4 * t + pl) := e5.1 _ _ (by omega) (by omega) (by omega)
    obtain ⟨v1, v2, v3⟩ := y4 (pl + 1) (by omega) (by omega)
    have hL2 := LB_fr ht.1 hC.1 hL e4 e5
    obtain ⟨wc, wr, m2, f1, f2, f3, f4, f5⟩ := split_I (b := vr 846 (4 * t + pl)) hw (FgC hw ht hC e4) (FgD hD e5) ht e3 (fun b b0 b1 => ⟨(hL2 b b0 b1).1, (hL2 b b0 b1).2.2⟩) (by omega) x2 (x3 (by omega)) (j := pl) (M := M) (nx := ur 846 (4 * t + (pl + 1))) ⟨p0, by omega, by omega⟩ y2 (by rw [(y4 pl p0 (by omega)).1, b46]) v1 v2
    have F1 := Fg1_tr e4 f4
    have F2 := Fg2_tr e5 f5
    have hG2 : GI_ g L t m2 (7 * (pl + 1)) wc wr := by
      obtain ⟨⟨h1, h2, h3, h4⟩, h5⟩ := f3
      exact ⟨⟨h1, h2, h3, by omega⟩, h5⟩
    obtain ⟨zc, zr, m3, s1, s2, s3, s4, s5⟩ := ih n (pl + 1) m2 wc wr (FgC hw ht hC F1) (FgD hD F2) (LB_fr ht.1 hC.1 hL F1 F2) (TB_fr hT F1 F2) hG2 (by omega) (by omega) (by omega)
    refine ⟨zc, zr, m3, ?_, ?_, s3, Fg1_tr F1 s4, Fg2_tr F2 s5⟩
    · rw [e1, f1, bd_s]
      exact s1
    · rw [e2, if_neg (show ¬ ur 847 t ≤ pl + 1 by rw [y3]; omega), f2, bd_s]
      exact s2
theorem gather_T {g vc vr : V_} {L : Int → Int} {t p M : Int} (hw : WF_ g) (ht : 0 ≤ t ∧ t < 8) (hC : C_ vc p g) (hD : D_ vr g) (hL : LB_ g L p vc vr) (hT : TB_ g t M vc vr) : ∃ vc' vr' m', fX10_gather (200 + 75 * t) p (if g 11 38 = 1 then 1 else 0) vc = some (0, vc') ∧ fX12_fillsItems 814 t vr = some (0, vr') ∧ GF_ g t m' vc' vr' ∧ Fg1_ t vc vc' ∧ Fg2_ t vr vr' := by
  have hn := hw.1
  unfold fX10_gather fX12_fillsItems
  rw [lt_d, lt_d, lt_d, lt_d, lt_d, ck_t ht, lt_d, ck_t ht, lt_d]
  try dsimp only [Int.reduceAdd]
  obtain ⟨uc, e1, -, a1, a2⟩ := lp_s (σ := V_) (F := fun n i v => fX10_gather_27 n (200 + 75 * t) p (if g 11 38 = 1 then 1 else 0) i v) (K := fun v => fX10_gather_48 fu_ (200 + 75 * t) p (if g 11 38 = 1 then 1 else 0) 0 v) (e := 6) (I := fun i u => 0 ≤ i ∧ (∀ a k, a ≠ 205 + 75 * t → u a k = up_ (up_ (up_ (up_ (up_ vc (200 + 75 * t) 3 0) (200 + 75 * t) 4 0) (200 + 75 * t) 5 0) (200 + 75 * t) 16 (-1)) (200 + 75 * t) 17 0 a k) ∧ ∀ r, 0 ≤ r → r < i → u (205 + 75 * t) r = r) (fun n i u h hi => by
    obtain ⟨h0, h1, h2⟩ := h
    rw [fX10_gather_27, if_neg (by omega), ck_t (by omega), lt_d, lt_d, wr_id (by omega), show 200 + 75 * t + 5 = 205 + 75 * t by omega]
    refine ⟨_, rfl, by omega, fun a k q => (up_n (by omega)).trans (h1 a k q), fun r r0 r1 => ?_⟩
    by_cases c : r = i
    · rw [up_s ⟨rfl, c⟩, c]
    · rw [up_n (by omega)]; exact h2 r r0 (by omega)) (fun n u _ => by
    rw [fX10_gather_27, if_pos (by decide)]) 6 fu_ 0 _ ⟨by decide, fun _ _ _ => rfl, fun r r0 r1 => by omega⟩ (by decide) (by decide)
  obtain ⟨ur, e2, -, b1, b2⟩ := lp_s (σ := V_) (F := fun n i v => fX12_fillsItems_16 n 814 t i v) (K := fun v => fX12_fillsItems_37 fu_ 814 t 0 v) (e := 6) (I := fun i u => 0 ≤ i ∧ (∀ a k, a ≠ 861 → u a k = up_ (up_ vr 848 t 0) 860 t 0 a k) ∧ ∀ r, 0 ≤ r → r < i → u 861 r = r) (fun n i u h hi => by
    obtain ⟨h0, h1, h2⟩ := h
    rw [fX12_fillsItems_16, if_neg (by omega), ck_t (by omega), lt_d, lt_d, wr_id (by omega)]
    dsimp only [Int.reduceAdd]
    refine ⟨_, rfl, by omega, fun a k q => (up_n (by omega)).trans (h1 a k q), fun r r0 r1 => ?_⟩
    by_cases c : r = i
    · rw [up_s ⟨rfl, c⟩, c]
    · rw [up_n (by omega)]; exact h2 r r0 (by omega)) (fun n u _ => by
    rw [fX12_fillsItems_16, if_pos (by decide)]) 6 fu_ 0 _ ⟨by decide, fun _ _ _ => rfl, fun r r0 r1 => by omega⟩ (by decide) (by decide)
  rw [e1, e2]
  have F1 : Fg1_ t vc uc := fun a k q => by
    rw [a1 _ _ (by omega), up_n (by omega), up_n (by omega), up_n (by omega), up_n (by omega), up_n (by omega)]
  have F2 : Fg2_ t vr ur := ⟨fun a k q1 q2 q3 => by rw [b1 _ _ q3, up_n (by omega), up_n (by omega)], fun a k q1 q2 q3 => by rw [b1 _ _ (by omega), up_n (by omega), up_n (by omega)], fun k q => ⟨by rw [b1 _ _ (by decide), up_n (by omega), up_n (by omega)], by rw [b1 _ _ (by decide), up_n (by omega), up_n (by omega)]⟩⟩
  have c : uc (200 + 75 * t) 3 = 0 ∧ uc (200 + 75 * t) 4 = 0 ∧ uc (200 + 75 * t) 5 = 0 ∧ uc (200 + 75 * t) 16 = -1 ∧ uc (200 + 75 * t) 17 = 0 := by
    simp (disch := omega) only [a1, up_s, up_n, and_self]
  have d : ur 848 t = 0 ∧ ur 860 t = 0 := by
    constructor
    · rw [b1 _ _ (by decide), up_n (by omega), up_s ⟨rfl, rfl⟩]
    · rw [b1 _ _ (by decide), up_s ⟨rfl, rfl⟩]
  have hG : GI_ g L t 0 (7 * 0) uc ur := by
    refine ⟨⟨c.1, d.1, by decide, by rw [d.2]; decide⟩, by rw [c.2.2.1, d.2]; decide, fun r r0 r1 => by rw [a2 r r0 r1, b2 r r0 r1]; omega, fun j j0 j1 => by omega, ⟨by rw [c.2.2.2.1]; exact Or.inl ⟨rfl, fun i i0 i1 => by omega⟩, c.2.1⟩, by rw [c.2.2.2.2]; decide, fun r r0 r1 => ?_⟩
    rw [c.2.2.2.2, bt_0]
    exact ⟨fun n => absurd n (by decide), fun ⟨j, j0, j1, _⟩ => by omega⟩
  have hM := hT.1
  obtain ⟨wc, wr, m', s1, s2, s3, s4, s5⟩ := places_I (L := L) hw ht (M - 1).toNat fu_ 0 0 uc ur (FgC hw ht hC F1) (FgD hD F2) (LB_fr ht.1 hC.1 hL F1 F2) (TB_fr hT F1 F2) hG (by decide) (by omega) (by unfold fu_; omega)
  exact ⟨wc, wr, m', s1, s2, s3, Fg1_tr F1 s4, Fg2_tr F2 s5⟩
