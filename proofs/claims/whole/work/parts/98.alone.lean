/-! layer 2: a block goes alone, in both -/
def RC_ (vc : V_) (x0 : Int) (vr : V_) : Prop := (∀ k, 0 ≤ k → k < 12 → vc (x0 + 1) k = vr 839 k ∧ iR_ (vr 839 k)) ∧ ∀ k, 0 ≤ k → k < 8 → vc (x0 + 2) k = vr 840 k ∧ iR_ (vr 840 k)
/-- coarse frames of runs -/
def Fa_ (x0 : Int) (u w : V_) : Prop := ∀ a k, a < x0 ∨ x0 + 7 ≤ a → w a k = u a k
def Fb_ (u w : V_) : Prop := ∀ a k, a < 839 ∨ 842 < a → ¬ (a = 814 ∧ 40 ≤ k ∧ k ≤ 46) → w a k = u a k
theorem wr_iR (x : Int) : iR_ (wr_ x) := by
  unfold iR_ wr_
  omega
theorem rv_T {vc vr : V_} {x0 a : Int} (h : RC_ vc x0 vr) (ha : VA_ a) : rv_ (vc (x0 + 1)) a = rv_ (vr 839) a ∧ iR_ (rv_ (vr 839) a) := by
  unfold rv_
  unfold VA_ at ha
  by_cases c : a < 20
  · rw [if_pos c, if_pos c]
    exact h.1 a (by omega) (by omega)
  · rw [if_neg c, if_neg c]
    refine ⟨rfl, ?_⟩
    unfold iR_
    omega
theorem dv_T {vc vr : V_} {x0 s o u w : Int} (h : RC_ vc x0 vr) (hw : iR_ w) : dv_ (vc (x0 + 2)) s o u w = dv_ (vr 840) s o u w ∧ iR_ (dv_ (vr 840) s o u w) := by
  unfold dv_
  by_cases c : wf_ s o u w = 1
  · rw [if_pos c, if_pos c]
    exact ⟨rfl, ⟨by decide, by decide⟩⟩
  · rw [if_neg c, if_neg c]
    by_cases c0 : s = 0
    · rw [if_pos c0, if_pos c0]
      refine ⟨rfl, ?_⟩
      split
      · exact wr_iR _
      · split
        · exact wr_iR _
        · split <;> exact wr_iR _
    · rw [if_neg c0, if_neg c0]
      by_cases c1 : s = 1
      · rw [if_pos c1, if_pos c1]
        have hu : 0 ≤ u ∧ u < 8 := by
          unfold wf_ at c
          rw [if_neg c0] at c
          split at c
          · omega
          · split at c <;> omega
        exact h.2 u hu.1 hu.2
      · rw [if_neg c1, if_neg c1]
        exact ⟨rfl, hw⟩
theorem se_o {v : V_} {ra ca r c d q k : Int} (h : q ≠ ra ∧ q ≠ ca) : se_ v ra ca r c d q k = v q k := by
  unfold se_
  split
  · split
    · rfl
    · exact up_n (fun e => h.1 e.1)
  · exact up_n (fun e => h.2 e.1)
theorem se_T {vc vr : V_} {x0 r c d : Int} (h : RC_ vc x0 vr) (hr : r < 12) (hc : c < 8) (hd : iR_ d) : RC_ (se_ vc (x0 + 1) (x0 + 2) r c d) x0 (se_ vr 839 840 r c d) := by
  unfold se_
  by_cases c0 : c < 0
  · rw [if_pos c0, if_pos c0]
    by_cases r0 : r < 0
    · rw [if_pos r0, if_pos r0]
      exact h
    · rw [if_neg r0, if_neg r0]
      refine ⟨fun k k0 k1 => ?_, fun k k0 k1 => ?_⟩
      · by_cases e : k = r
        · rw [up_s ⟨rfl, e⟩, up_s ⟨rfl, e⟩]
          exact ⟨rfl, hd⟩
        · rw [up_n (fun q => e q.2), up_n (fun q => e q.2)]
          exact h.1 k k0 k1
      · rw [up_n (by omega), up_n (by omega)]
        exact h.2 k k0 k1
  · rw [if_neg c0, if_neg c0]
    refine ⟨fun k k0 k1 => ?_, fun k k0 k1 => ?_⟩
    · rw [up_n (by omega), up_n (by omega)]
      exact h.1 k k0 k1
    · by_cases e : k = c
      · rw [up_s ⟨rfl, e⟩, up_s ⟨rfl, e⟩]
        exact ⟨rfl, hd⟩
      · rw [up_n (fun q => e q.2), up_n (fun q => e q.2)]
        exact h.2 k k0 k1
theorem dc_lt (s u : Int) : dc_ s u < 8 := by
  unfold dc_
  split
  · split
    · decide
    · split <;> omega
  · decide
theorem wf_01 (s o u w : Int) : wf_ s o u w = 0 ∨ wf_ s o u w = 1 := by
  unfold wf_
  split <;> split <;> (try split) <;> simp
theorem RC_fr {vc vr wc wr : V_} {x0 : Int} (h : RC_ vc x0 vr) (h1 : ∀ k, wc (x0 + 1) k = vc (x0 + 1) k) (h2 : ∀ k, wc (x0 + 2) k = vc (x0 + 2) k) (h3 : ∀ k, wr 839 k = vr 839 k) (h4 : ∀ k, wr 840 k = vr 840 k) : RC_ wc x0 wr := by
  unfold RC_
  simp only [h1, h2, h3, h4]
  exact h
theorem lines_T {x0 p b : Int} {g : V_} (hx : x0 = 800 ∨ x0 = 807) (hw : WF_ g) (hb : 0 ≤ b ∧ b < g 0 0) : ∀ (d n m : Nat) (i : Int) (vc vr : V_), C_ vc p g → D_ vr g → RC_ vc x0 vr → vc x0 5 = vr 814 45 → 0 ≤ i → g 1 b = i + d → d < n → d < m →
    ∃ vc' vr', Fa_ x0 vc vc' ∧ Fb_ vr vr' ∧ vc' x0 5 = vr' 814 45 ∧ vc' x0 6 = vc x0 6 ∧ vr' 814 46 = vr 814 46 ∧ (∀ k, vc' x0 k = vc x0 k ∨ k = 4 ∨ k = 5 ∨ k = 9) ∧ (∀ k, vc' (x0 + 3) k = vc (x0 + 3) k ∧ vc' (x0 + 4) k = vc (x0 + 4) k) ∧ (∀ k, vr' 841 k = vr 841 k ∧ vr' 842 k = vr 842 k) ∧
    ((fX6_goAlone_28 n x0 p 140 b i vc = some (0, vc') ∧ fX12_linesDone_2 m 814 b i vr = some (0, vr') ∧ vc' x0 4 = 1 ∧ vc' x0 9 = -1) ∨ (∃ n', fX6_goAlone_28 n x0 p 140 b i vc = fX6_goAlone_28 (n' + 1) x0 p 140 b (g 1 b) vc' ∧ fX12_linesDone_2 m 814 b i vr = some (1, vr') ∧ RC_ vc' x0 vr' ∧ vc' x0 4 = vc x0 4)) := by
  have hn := hw.1
  obtain ⟨hl, he, hln⟩ := hw.2 b hb.1 hb.2
  intro d
  induction d with
  | zero =>
    intro n m i vc vr hC hD hR hc h0 hd hn0 hm0
    obtain ⟨n, rfl⟩ : ∃ k, n = k + 1 := ⟨n - 1, by omega⟩
    obtain ⟨m, rfl⟩ : ∃ k, m = k + 1 := ⟨m - 1, by omega⟩
    refine ⟨vc, vr, fun _ _ _ => rfl, fun _ _ _ _ => rfl, hc, rfl, rfl, fun _ => Or.inl rfl, fun _ => ⟨rfl, rfl⟩, fun _ => ⟨rfl, rfl⟩, Or.inr ⟨n, by rw [show i = g 1 b by omega], ?_, hR, rfl⟩⟩
    rw [fX12_linesDone_2, linesOf_e hD (by omega), bd_s, if_pos (by dsimp only; omega)]
  | succ d ih =>
    intro n m i vc vr hC hD hR hc h0 hd hn0 hm0
    obtain ⟨n, rfl⟩ : ∃ k, n = k + 1 := ⟨n - 1, by omega⟩
    obtain ⟨m, rfl⟩ : ∃ k, m = k + 1 := ⟨m - 1, by omega⟩
    have hL := hln i h0 (by omega)
    have hI := LI_of hL
    obtain ⟨e1, e2, e3, e4, e5⟩ := hC.2.2.1 b hb.1 hb.2
    have hS := SI_of (e5 i h0 (by omega))
    have hp := hC.1
    rw [fX6_goAlone_28, ck_t (by omega), if_neg (by rw [e1]; omega), wr_id (show -2147483648 ≤ b * 6 ∧ b * 6 < 2147483648 by omega), wr_id (show -2147483648 ≤ b * 6 + i ∧ b * 6 + i < 2147483648 by omega), ck_t (by omega), lt_d, show (p + 2) + (6 + 1 * (b * 6 + i)) = p + 8 + (6 * b + i) by omega]
    rw [fX12_linesDone_2, linesOf_e hD (by omega), bd_s, if_neg (by dsimp only; omega), lineAt_e hD (by omega) (by omega), bd_s]
    dsimp only
    have hs0 := hD.1
    rw [ck_t (by omega), ck_t (by omega), ck_t (by omega), ck_t (by omega)]
    have d3 := hD.2.2.2.1 (6 * b + i) (by omega) (by omega)
    simp only [Int.reduceAdd, d3]
    obtain ⟨wr, r1, r2, r3, r4, r5⟩ := reck_e (v := vr) hI
    rw [r1, bd_s, cwf_e hS hI, bd_s]
    dsimp only
    obtain ⟨ra, rai⟩ := rv_T hR hI.2.1
    obtain ⟨rb, rbi⟩ := rv_T hR hI.2.2
    have ww : wr 814 45 = vr 814 45 ∧ wr 814 46 = vr 814 46 ∧ (∀ k, wr 839 k = vr 839 k) ∧ (∀ k, wr 840 k = vr 840 k) ∧ (∀ k, wr 841 k = vr 841 k) ∧ (∀ k, wr 842 k = vr 842 k) := ⟨r5 _ _ (by omega), r5 _ _ (by omega), fun k => r5 _ _ (by omega), fun k => r5 _ _ (by omega), fun k => r5 _ _ (by omega), fun k => r5 _ _ (by omega)⟩
    rcases wf_01 (g 2 (6 * b + i)) (g 3 (6 * b + i)) (rv_ (vr 839) (g 5 (6 * b + i))) (rv_ (vr 839) (g 6 (6 * b + i))) with f | f
    · rw [if_pos (show wf_ (g 2 (6 * b + i)) (g 3 (6 * b + i)) (rv_ (vc (x0 + 1)) (g 5 (6 * b + i))) (rv_ (vc (x0 + 1)) (g 6 (6 * b + i))) = 0 by rw [ra, rb]; exact f), if_pos (show wr 814 42 = 0 from r2.trans f), ck_t (by omega), cres_e hS hI (by rw [ra]; exact rai), bd_s]
      dsimp only
      rw [hS.2.2.1, cval_e hI.2.1, bd_s]
      dsimp only
      rw [cset_e hS hI, bd_s, se_2 hI, ra, rb, (dv_T hR rbi).1]
      dsimp only
      have hrd : g 4 (6 * b + i) < 12 := by have := hI.1; omega
      rw [r5 829 _ (by omega), (hD.2.2.2.1 (6 * b + i) (by omega) (by omega)).2.2.1, rset_e hrd (by rw [r3]; exact dc_lt _ _), bd_s, r3, r4]
      dsimp only
      have hR1 : RC_ vc x0 wr := RC_fr hR (fun _ => rfl) (fun _ => rfl) ww.2.2.1 ww.2.2.2.1
      have hR2 := se_T hR1 hrd (dc_lt (g 2 (6 * b + i)) (rv_ (vr 839) (g 5 (6 * b + i)))) (dv_T (s := g 2 (6 * b + i)) (o := g 3 (6 * b + i)) (u := rv_ (vr 839) (g 5 (6 * b + i))) hR rbi).2
      generalize edc : dc_ (g 2 (6 * b + i)) (rv_ (vr 839) (g 5 (6 * b + i))) = cc at hR2 ⊢
      generalize edv : dv_ (vr 840) (g 2 (6 * b + i)) (g 3 (6 * b + i)) (rv_ (vr 839) (g 5 (6 * b + i))) (rv_ (vr 839) (g 6 (6 * b + i))) = dd at hR2 ⊢
      have o1 : ∀ q k, q ≠ x0 + 1 ∧ q ≠ x0 + 2 → se_ vc (x0 + 1) (x0 + 2) (g 4 (6 * b + i)) cc dd q k = vc q k := fun q k h => se_o h
      have o2 : ∀ q k, q ≠ 839 ∧ q ≠ 840 → se_ wr 839 840 (g 4 (6 * b + i)) cc dd q k = wr q k := fun q k h => se_o h
      generalize se_ vc (x0 + 1) (x0 + 2) (g 4 (6 * b + i)) cc dd = vc1 at hR2 o1 ⊢
      generalize se_ wr 839 840 (g 4 (6 * b + i)) cc dd = vr1 at hR2 o2 ⊢
      have hC1 : C_ vc1 p g := C_fr hw hC (fun a k a0 a1 => o1 a k (by omega)) (fun k _ _ => o1 _ k (by omega))
      have hD1 : D_ vr1 g := D_fr hD ((o2 _ _ (by omega)).trans (r5 _ _ (by omega))) (fun a k a0 a1 => (o2 _ _ (by omega)).trans (r5 _ _ (by omega))) (fun k _ _ => (o2 _ _ (by omega)).trans (r5 _ _ (by omega)))
      have hk0 : 0 ≤ kn_ (g 2 (6 * b + i)) (g 3 (6 * b + i)) ∧ kn_ (g 2 (6 * b + i)) (g 3 (6 * b + i)) < 4 := by unfold kn_; split <;> (try split) <;> omega
      have hy1 : vc1 (p + 8 + (6 * b + i)) 0 = opc_ (g 2 (6 * b + i)) (g 3 (6 * b + i)) := (o1 _ _ (by omega)).trans (e5 i h0 (by omega)).1
      have l18 : vr 814 18 = vr1 814 18 := ((o2 _ _ (by omega)).trans (r5 _ _ (by omega))).symm
      rw [kind_line hy1 hL, bd_s, l18, kindOf_e hD1 (by omega), bd_s]
      dsimp only
      rw [clat_e hC1 hk0, bd_s, lt_d, lt_d, takesOf_e hD1 hk0, bd_s, lt_d, lt_d]
      dsimp only
      have c1 : vc1 x0 5 = vr1 814 45 := by rw [o1 _ _ (by omega), o2 _ _ (by omega), ww.1, hc]
      rw [c1, wr_id (show -2147483648 ≤ i + 1 ∧ i + 1 < 2147483648 by omega)]
      generalize wr_ (vr1 814 45 + g 11 (43 + kn_ (g 2 (6 * b + i)) (g 3 (6 * b + i)))) = cy
      obtain ⟨vc', vr', q1, q2, q3, q4, q5, q6, q7, q8, q9⟩ := ih n m (i + 1) (up_ vc1 x0 5 cy) (up_ vr1 814 45 cy) (C_fr hw hC1 (fun a k a0 a1 => up_n (by omega)) (fun k _ _ => up_n (by omega))) (D_fr hD1 (up_n (by omega)) (fun a k a0 a1 => up_n (by omega)) (fun k _ _ => up_n (by omega))) (RC_fr hR2 (fun k => up_n (by omega)) (fun k => up_n (by omega)) (fun k => up_n (by omega)) (fun k => up_n (by omega))) (by rw [up_s ⟨rfl, rfl⟩, up_s ⟨rfl, rfl⟩]) (by omega) (by omega) (by omega) (by omega)
      refine ⟨vc', vr', fun a k h => ?_, fun a k h h2 => ?_, q3, ?_, ?_, fun k => ?_, fun k => ?_, fun k => ?_, ?_⟩
      · rw [q1 a k h, up_n (by omega), o1 _ _ (by omega)]
      · rw [q2 a k h h2, up_n (by omega), o2 _ _ (by omega), r5 _ _ (by omega)]
      · rw [q4, up_n (by omega), o1 _ _ (by omega)]
      · rw [q5, up_n (by omega), o2 _ _ (by omega), ww.2.1]
      · by_cases k5 : k = 5
        · exact Or.inr (Or.inr (Or.inl k5))
        · rcases q6 k with q | q
          · left
            rw [q, up_n (by omega), o1 _ _ (by omega)]
          · exact Or.inr q
      · rw [(q7 k).1, (q7 k).2, up_n (by omega), up_n (by omega), o1 _ _ (by omega), o1 _ _ (by omega)]
        exact ⟨rfl, rfl⟩
      · rw [(q8 k).1, (q8 k).2, up_n (by omega), up_n (by omega), o2 _ _ (by omega), o2 _ _ (by omega), ww.2.2.2.2.1, ww.2.2.2.2.2]
        exact ⟨rfl, rfl⟩
      · rcases q9 with q9 | ⟨n', q9, q10, q11, q12⟩
        · exact Or.inl q9
        · refine Or.inr ⟨n', q9, q10, q11, ?_⟩
          rw [q12, up_n (by omega), o1 _ _ (by omega)]
    · rw [if_neg (show ¬ wf_ (g 2 (6 * b + i)) (g 3 (6 * b + i)) (rv_ (vc (x0 + 1)) (g 5 (6 * b + i))) (rv_ (vc (x0 + 1)) (g 6 (6 * b + i))) = 0 by rw [ra, rb]; omega), if_neg (show ¬ wr 814 42 = 0 by rw [r2]; omega)]
      unfold fX6_fault
      rw [lt_d, lt_d, bd_s]
      dsimp only
      refine ⟨_, _, fun a k h => ?_, fun a k h h2 => r5 a k (by omega), ?_, ?_, ww.2.1, fun k => ?_, fun k => ?_, fun k => ⟨ww.2.2.2.2.1 k, ww.2.2.2.2.2 k⟩, Or.inl ⟨rfl, rfl, ?_, up_s ⟨rfl, rfl⟩⟩⟩
      · rw [up_n (by omega), up_n (by omega)]
      · rw [up_n (by omega), up_n (by omega), ww.1, hc]
      · rw [up_n (by omega), up_n (by omega)]
      · by_cases k4 : k = 4 ∨ k = 9
        · omega
        · left
          rw [up_n (by omega), up_n (by omega)]
      · rw [up_n (by omega), up_n (by omega), up_n (by omega), up_n (by omega)]
        exact ⟨rfl, rfl⟩
      · rw [up_n (by omega), up_s ⟨rfl, rfl⟩]
/-- which way an end goes -/
def ew_ (e u w : Int) : Int := if e = 1 then (if w ≤ u then 1 else 0) else 0
theorem cend_e {v : V_} {x0 y e a b : Int} (h : SE_ v y e a b) (he : 0 ≤ e ∧ e ≤ 2) (ha : VA_ a) (hb : VA_ b) : fX6_resultOf x0 y v = some (ew_ e (rv_ (v (x0 + 1)) a) (rv_ (v (x0 + 1)) b), v) := by
  obtain ⟨h0, -, h2, h3⟩ := h
  unfold fX6_resultOf ew_
  rw [h2, cval_e ha, bd_s]
  dsimp only
  rw [h3, cval_e hb, bd_s]
  dsimp only
  simp only [h0]
  rcases (by omega : e = 0 ∨ e = 1 ∨ e = 2) with rfl | rfl | rfl
  · rfl
  · simp only [Int.reduceAdd, Int.reduceEq, if_false, if_true]
    split <;> rfl
  · rfl
def NX_ (m a b : Int) : Prop := (a = -1 ∧ b < 0 ∧ b ≠ -3) ∨ (0 ≤ a ∧ a < m ∧ a = b)
theorem EN_va {m e a b t u : Int} (h : EN_ m e a b t u) : (0 ≤ e ∧ e ≤ 2) ∧ VA_ a ∧ VA_ b := by
  unfold EN_ VR_ at h
  unfold VA_
  omega
theorem end_T {x0 p b : Int} {g vc vr : V_} (hx : x0 = 800 ∨ x0 = 807) (hw : WF_ g) (hb : 0 ≤ b ∧ b < g 0 0) (hC : C_ vc p g) (hD : D_ vr g) (hR : RC_ vc x0 vr) (hc : vc x0 5 = vr 814 45) (n : Nat) :
    ∃ vc' vr' nx, fX6_goAlone_28 (n + 1) x0 p 140 b (g 1 b) vc = some (0, vc') ∧ fX12_endDone 814 b vr = some (nx, vr') ∧ NX_ (g 0 0) (vc' x0 9) nx ∧ Fa_ x0 vc vc' ∧ Fb_ vr vr' ∧ RC_ vc' x0 vr' ∧ vc' x0 5 = vr' 814 45 ∧ vc' x0 6 = vc x0 6 ∧ vr' 814 46 = vr 814 46 ∧ (∀ k, vc' x0 k = vc x0 k ∨ k = 5 ∨ k = 9) ∧ (∀ k, vc' (x0 + 3) k = vc (x0 + 3) k ∧ vr' 841 k = vr 841 k) ∧ (∀ k, vr' 842 k = vr 842 k ∨ vr' 842 k = wr_ (vr 842 k + 1)) ∧ ((∀ k, 0 ≤ k → k < 16 → vc (x0 + 4) k = vr 842 k) → ∀ k, 0 ≤ k → k < 16 → vc' (x0 + 4) k = vr' 842 k) := by
  have hn := hw.1
  obtain ⟨hl, he, hln⟩ := hw.2 b hb.1 hb.2
  obtain ⟨e1, e2, e3, e4, e5⟩ := hC.2.2.1 b hb.1 hb.2
  obtain ⟨ve, va, vb⟩ := EN_va he
  have hp := hC.1
  have hs0 := hD.1
  rw [fX6_goAlone_28, ck_t (by omega), if_pos (by rw [e1]; omega), clat_e hC (by decide), bd_s, lt_d, ck_t (by omega), show (p + 3) + (53 + 1 * b) = p + 56 + b by omega]
  unfold fX12_endDone
  rw [wr_id (show -2147483648 ≤ 8 * vr 814 18 ∧ 8 * vr 814 18 < 2147483648 by omega), wr_id (show -2147483648 ≤ 8 * vr 814 18 + b ∧ 8 * vr 814 18 + b < 2147483648 by omega), lt_d, takesOf_e hD (by decide), bd_s, lt_d, hc]
  dsimp only
  generalize wr_ (vr 814 45 + g 11 (43 + 3)) = cy
  have f1 : ∀ q k, ¬ (q = x0 ∧ k = 5) → up_ vc x0 5 cy q k = vc q k := fun q k h => up_n h
  have f2 : ∀ q k, ¬ (q = 814 ∧ k = 45) → up_ vr 814 45 cy q k = vr q k := fun q k h => up_n h
  have g1 : up_ vc x0 5 cy x0 5 = cy := up_s ⟨rfl, rfl⟩
  have g2 : up_ vr 814 45 cy 814 45 = cy := up_s ⟨rfl, rfl⟩
  generalize up_ vc x0 5 cy = vc1 at f1 g1 ⊢
  generalize up_ vr 814 45 cy = vr1 at f2 g2 ⊢
  have hE1 : SE_ vc1 (p + 56 + b) (g 7 b) (g 8 b) (g 9 b) := by
    have h5 : ∀ k, vc1 (p + 56 + b) k = vc (p + 56 + b) k := fun k => f1 _ _ (by omega)
    unfold SE_ at *
    simp only [h5]
    exact e2
  have hR1 : RC_ vc1 x0 vr1 := RC_fr hR (fun k => f1 _ _ (by omega)) (fun k => f1 _ _ (by omega)) (fun k => f2 _ _ (by omega)) (fun k => f2 _ _ (by omega))
  have hC1 : C_ vc1 p g := C_fr hw hC (fun a k a0 a1 => f1 _ _ (by omega)) (fun k _ _ => f1 _ _ (by omega))
  have hD1 : D_ vr1 g := D_fr hD (f2 _ _ (by omega)) (fun a k a0 a1 => f2 _ _ (by omega)) (fun k _ _ => f2 _ _ (by omega))
  rw [cend_e hE1 ve va vb, bd_s]
  have l18 : vr 814 18 = vr1 814 18 := (f2 _ _ (by omega)).symm
  have d2 := hD1.2.2.1 b (by omega) (by omega)
  rw [← l18] at d2
  simp only [Int.reduceAdd, d2]
  rw [ck_t (by omega), ck_t (by omega), ck_t (by omega), (rv_T hR1 va).1, (rv_T hR1 vb).1]
  have gw : ∀ w, 0 ≤ w → w < 2 → 0 ≤ g 10 (2 * b + w) → g 10 (2 * b + w) < g 0 0 → ∃ vc' vr' nx, fX6_leave x0 p b w vc1 = some ((0 : Int), vc') ∧ fX12_endDone_74 814 b w vr1 = some (nx, vr') ∧ NX_ (g 0 0) (vc' x0 9) nx ∧ Fa_ x0 vc vc' ∧ Fb_ vr vr' ∧ RC_ vc' x0 vr' ∧ vc' x0 5 = vr' 814 45 ∧ vc' x0 6 = vc x0 6 ∧ vr' 814 46 = vr 814 46 ∧ (∀ k, vc' x0 k = vc x0 k ∨ k = 5 ∨ k = 9) ∧ (∀ k, vc' (x0 + 3) k = vc (x0 + 3) k ∧ vr' 841 k = vr 841 k) ∧ (∀ k, vr' 842 k = vr 842 k ∨ vr' 842 k = wr_ (vr 842 k + 1)) ∧ ((∀ k, 0 ≤ k → k < 16 → vc (x0 + 4) k = vr 842 k) → ∀ k, 0 ≤ k → k < 16 → vc' (x0 + 4) k = vr' 842 k) := by
    unfold fX6_leave
    intro w w0 w1 t0 t1
    rw [leadsTo_e hw hC1 hb ⟨w0, w1⟩, bd_s, lt_d, if_pos (by rw [up_s ⟨rfl, rfl⟩]; exact t0), wr_id (show -2147483648 ≤ b * 2 ∧ b * 2 < 2147483648 by omega), wr_id (show -2147483648 ≤ b * 2 + w ∧ b * 2 + w < 2147483648 by omega), ck_t (by omega), ck_t (by omega), lt_d]
    unfold fX12_endDone_74
    rw [wr_id (show -2147483648 ≤ 2 * b ∧ 2 * b < 2147483648 by omega), wr_id (show -2147483648 ≤ 2 * b + w ∧ 2 * b + w < 2147483648 by omega), ck_t (by omega), ck_t (by omega), lt_d, wayTo_e (D_fr hD1 (up_n (by omega)) (fun a k a0 a1 => up_n (by omega)) (fun k _ _ => up_n (by omega))) (by omega) ⟨w0, w1⟩, bd_s]
    dsimp only [Int.reduceAdd]
    refine ⟨_, _, _, rfl, rfl, Or.inr ⟨?_, ?_, ?_⟩, fun a k h => ?_, fun a k h h2 => ?_, RC_fr hR1 (fun k => ?_) (fun k => ?_) (fun k => ?_) (fun k => ?_), ?_, ?_, ?_, fun k => ?_, fun k => ?_, fun k => ?_, fun hh k k0 k1 => ?_⟩
    · rw [up_n (by omega), up_s ⟨rfl, rfl⟩]; exact t0
    · rw [up_n (by omega), up_s ⟨rfl, rfl⟩]; exact t1
    · rw [up_n (by omega), up_s ⟨rfl, rfl⟩]
    · rw [up_n (by omega), up_n (by omega), f1 _ _ (by omega)]
    · rw [up_n (by omega), f2 _ _ (by omega)]
    · rw [up_n (by omega), up_n (by omega)]
    · rw [up_n (by omega), up_n (by omega)]
    · rw [up_n (by omega)]
    · rw [up_n (by omega)]
    · rw [up_n (by omega), up_n (by omega), up_n (by omega), g1, g2]
    · rw [up_n (by omega), up_n (by omega), f1 _ _ (by omega)]
    · rw [up_n (by omega), f2 _ _ (by omega)]
    · by_cases k5 : k = 5 ∨ k = 9
      · exact Or.inr k5
      · left
        rw [up_n (by omega), up_n (by omega), f1 _ _ (by omega)]
    · rw [up_n (by omega), up_n (by omega), up_n (by omega), f1 _ _ (by omega), f2 _ _ (by omega)]
      exact ⟨rfl, rfl⟩
    · by_cases ke : k = 2 * b + w
      · right
        rw [up_s ⟨rfl, ke⟩, ke, ← f2 842 (2 * b + w) (by omega)]
      · left
        rw [up_n (by omega), f2 _ _ (by omega)]
    · have ex : up_ vc1 x0 9 (g 10 (2 * b + w)) (x0 + 4) (b * 2 + w) = vr1 842 (2 * b + w) := by
        rw [up_n (by omega), f1 _ _ (by omega), show b * 2 + w = 2 * b + w by omega, hh _ (by omega) (by omega)]
        exact (f2 _ _ (by omega)).symm
      rw [ex]
      by_cases ke : k = 2 * b + w
      · rw [up_s ⟨rfl, by omega⟩, up_s ⟨rfl, ke⟩]
      · rw [up_n (by omega), up_n (by omega), up_n (by omega), f1 _ _ (by omega), f2 _ _ (by omega)]
        exact hh k k0 k1
  have fin : ∀ w, (∃ vc' vr' nx, fX6_leave x0 p b w vc1 = some ((0 : Int), vc') ∧ fX12_endDone_74 814 b w vr1 = some (nx, vr') ∧ NX_ (g 0 0) (vc' x0 9) nx ∧ Fa_ x0 vc vc' ∧ Fb_ vr vr' ∧ RC_ vc' x0 vr' ∧ vc' x0 5 = vr' 814 45 ∧ vc' x0 6 = vc x0 6 ∧ vr' 814 46 = vr 814 46 ∧ (∀ k, vc' x0 k = vc x0 k ∨ k = 5 ∨ k = 9) ∧ (∀ k, vc' (x0 + 3) k = vc (x0 + 3) k ∧ vr' 841 k = vr 841 k) ∧ (∀ k, vr' 842 k = vr 842 k ∨ vr' 842 k = wr_ (vr 842 k + 1)) ∧ ((∀ k, 0 ≤ k → k < 16 → vc (x0 + 4) k = vr 842 k) → ∀ k, 0 ≤ k → k < 16 → vc' (x0 + 4) k = vr' 842 k)) → ∃ vc' vr' nx, (bd_ (fX6_leave x0 p b w vc1) fun q16 => some (0, q16.2)) = some ((0 : Int), vc') ∧ fX12_endDone_74 814 b w vr1 = some (nx, vr') ∧ NX_ (g 0 0) (vc' x0 9) nx ∧ Fa_ x0 vc vc' ∧ Fb_ vr vr' ∧ RC_ vc' x0 vr' ∧ vc' x0 5 = vr' 814 45 ∧ vc' x0 6 = vc x0 6 ∧ vr' 814 46 = vr 814 46 ∧ (∀ k, vc' x0 k = vc x0 k ∨ k = 5 ∨ k = 9) ∧ (∀ k, vc' (x0 + 3) k = vc (x0 + 3) k ∧ vr' 841 k = vr 841 k) ∧ (∀ k, vr' 842 k = vr 842 k ∨ vr' 842 k = wr_ (vr 842 k + 1)) ∧ ((∀ k, 0 ≤ k → k < 16 → vc (x0 + 4) k = vr 842 k) → ∀ k, 0 ≤ k → k < 16 → vc' (x0 + 4) k = vr' 842 k) := fun w h => by
    obtain ⟨vc', vr', nx, e1, h2⟩ := h
    exact ⟨vc', vr', nx, by rw [e1, bd_s], h2⟩
  rcases he with ⟨q0, q1, q2, q3, q4, q5⟩ | ⟨q0, q1, q2, q3, q4, q5, q6⟩ | ⟨q0, q1, q2, q3, q4⟩
  · rw [if_neg (by omega), if_pos q0, show ew_ (g 7 b) (rv_ (vr1 839) (g 8 b)) (rv_ (vr1 839) (g 9 b)) = 0 by unfold ew_; rw [if_neg (by omega)]]
    exact fin 0 (gw 0 (by decide) (by decide) (by rw [Int.add_zero]; exact q3) (by rw [Int.add_zero]; exact q4))
  · rw [if_neg (by omega), if_neg (by omega), rval_e va, bd_s, ck_t (by omega)]
    dsimp only
    rw [d2.2.2.2, rval_e vb, bd_s]
    dsimp only
    unfold ew_
    rw [if_pos q0]
    by_cases c : rv_ (vr1 839) (g 9 b) ≤ rv_ (vr1 839) (g 8 b)
    · rw [if_pos c, if_pos c]
      exact fin 1 (gw 1 (by decide) (by decide) q5 q6)
    · rw [if_neg c, if_neg c]
      exact fin 0 (gw 0 (by decide) (by decide) (by rw [Int.add_zero]; exact q3) (by rw [Int.add_zero]; exact q4))
  · rw [if_pos q0, show ew_ (g 7 b) (rv_ (vr1 839) (g 8 b)) (rv_ (vr1 839) (g 9 b)) = 0 by unfold ew_; rw [if_neg (by omega)], show fX6_leave x0 p b 0 vc1 = bd_ (fX5_leadsTo p b 0 vc1) _ from rfl, leadsTo_e hw hC1 hb (by decide), bd_s, lt_d, if_neg (by rw [up_s ⟨rfl, rfl⟩, Int.add_zero]; omega), lt_d, bd_s]
    dsimp only
    refine ⟨_, _, _, rfl, rfl, Or.inl ⟨up_s ⟨rfl, rfl⟩, by decide, by decide⟩, fun a k h => ?_, fun a k h h2 => f2 _ _ (by omega), RC_fr hR1 (fun k => ?_) (fun k => ?_) (fun k => rfl) (fun k => rfl), ?_, ?_, f2 _ _ (by omega), fun k => ?_, fun k => ?_, fun k => Or.inl (f2 _ _ (by omega)), fun hh k k0 k1 => ?_⟩
    · rw [up_n (by omega), up_n (by omega), f1 _ _ (by omega)]
    · rw [up_n (by omega), up_n (by omega)]
    · rw [up_n (by omega), up_n (by omega)]
    · rw [up_n (by omega), up_n (by omega), g1, g2]
    · rw [up_n (by omega), up_n (by omega), f1 _ _ (by omega)]
    · by_cases k5 : k = 5 ∨ k = 9
      · exact Or.inr k5
      · left
        rw [up_n (by omega), up_n (by omega), f1 _ _ (by omega)]
    · rw [up_n (by omega), up_n (by omega), f1 _ _ (by omega), f2 _ _ (by omega)]
      exact ⟨rfl, rfl⟩
    · rw [up_n (by omega), up_n (by omega), f1 _ _ (by omega), f2 _ _ (by omega)]
      exact hh k k0 k1
