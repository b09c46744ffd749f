/-! layer 2: what a step reads, sets; whether it faults -/
def LI_ (s o r a b : Int) : Prop := ((s = 0 ∧ 0 ≤ o ∧ o ≤ 3 ∧ 0 ≤ r ∧ r < 12) ∨ (s = 1 ∧ o = 0 ∧ 0 ≤ r ∧ r < 12 ∧ b = 20) ∨ (s = 2 ∧ o = 0 ∧ r = -2)) ∧ VA_ a ∧ VA_ b
theorem LI_of {s o r a b : Int} (h : LN_ s o r a b) : LI_ s o r a b := by
  obtain ⟨h, h1, h2⟩ := h
  unfold VR_ at *
  refine ⟨by omega, ?_, ?_⟩ <;> unfold VA_ <;> omega
theorem LI_cases {s o r a b : Int} (h : LI_ s o r a b) : (s = 0 ∧ o = 0) ∨ (s = 0 ∧ o = 1) ∨ (s = 0 ∧ o = 2) ∨ (s = 0 ∧ o = 3) ∨ (s = 1 ∧ o = 0 ∧ b = 20) ∨ (s = 2 ∧ o = 0 ∧ r = -2) := by
  obtain ⟨h, -, -⟩ := h
  omega
/-- a step of the class at y: line or copy -/
def SI_ (v : V_) (y s o r a b : Int) : Prop := (v y 0 = opc_ s o ∨ (v y 0 = 6 ∧ s = 0 ∧ o = 0 ∧ b = 20)) ∧ v y 1 = r ∧ v y 2 = vl_ a ∧ v y 3 = vl_ b
theorem SI_of {v : V_} {y s o r a b : Int} (h : SL_ v y s o r a b) : SI_ v y s o r a b := ⟨Or.inl h.1, h.2⟩
def rv_ (R : Int → Int) (a : Int) : Int := if a < 20 then R a else a - 20
def wf_ (s o u w : Int) : Int := if s = 0 then (if o = 3 then (if w = 0 then 1 else 0) else 0) else if u < 0 then 1 else if 7 < u then 1 else 0
def dv_ (M : Int → Int) (s o u w : Int) : Int := if wf_ s o u w = 1 then 0 else if s = 0 then (if o = 0 then wr_ (u + w) else if o = 1 then wr_ (u - w) else if o = 2 then wr_ (u * w) else wr_ (Int.tdiv u w)) else if s = 1 then M u else w
def dc_ (s u : Int) : Int := if s = 2 then (if u < 0 then -1 else if 7 < u then -1 else u) else -1
def se_ (v : V_) (ra ca r c d : Int) : V_ := if c < 0 then (if r < 0 then v else up_ v ra r d) else up_ v ca c d
theorem cval_e {x0 a : Int} {v : V_} (h : VA_ a) : fX6_valueOf x0 (vl_ a) v = some (rv_ (v (x0 + 1)) a, v) := by
  unfold fX6_valueOf vl_ rv_
  unfold VA_ at h
  by_cases c : a < 20
  · rw [if_pos c, if_pos (by omega), bX_m (show iR_ (-1 - a) by unfold iR_; omega), if_neg (by omega), ck_t (by omega), if_pos c, show -1 - (-1 - a) = a by omega]
  · rw [if_neg c, if_neg (by omega), if_neg c]
theorem rval_e {a : Int} {v : V_} (h : VA_ a) : fX12_valueOf 814 a v = some (rv_ (v 839) a, v) := by
  unfold fX12_valueOf rv_
  unfold VA_ at h
  by_cases c : a < 20
  · rw [if_pos c, if_pos c, ck_t (by omega)]
    rfl
  · rw [if_neg c, if_neg c, wr_id (by omega)]
theorem isCell_e (u : Int) (v : V_) : fX11_isCell u v = some (if u < 0 then 0 else if 7 < u then 0 else 1, v) := by
  unfold fX11_isCell
  by_cases c : u < 0
  · rw [if_pos c, if_pos c]
  · rw [if_neg c, if_neg c]
    by_cases d : 7 < u
    · rw [if_pos (by omega), if_pos d]
    · rw [if_neg (by omega), if_neg d]
section STEP
variable {x0 y s o r a b : Int} {v : V_}
theorem cwf_e (h : SI_ v y s o r a b) (hl : LI_ s o r a b) : fX6_wouldFault x0 y v = some (wf_ s o (rv_ (v (x0 + 1)) a) (rv_ (v (x0 + 1)) b), v) := by
  obtain ⟨h0, -, h2, h3⟩ := h
  unfold fX6_wouldFault
  rw [h2, h3, cval_e hl.2.1, cval_e hl.2.2]
  generalize rv_ (v (x0 + 1)) a = u
  generalize rv_ (v (x0 + 1)) b = w
  rcases h0 with h0 | ⟨h0, rfl, rfl, rfl⟩
  · rw [h0]
    rcases LI_cases hl with ⟨rfl, rfl⟩ | ⟨rfl, rfl⟩ | ⟨rfl, rfl⟩ | ⟨rfl, rfl⟩ | ⟨rfl, rfl, -⟩ | ⟨rfl, rfl, -⟩
    · rfl
    · rfl
    · rfl
    · simp only [opc_, wf_, bd_s, if_true]
      by_cases c : w = 0
      · rw [if_pos c, if_pos c]
      · rw [if_neg c, if_neg c]
    · simp only [opc_, wf_, bd_s, isCell_e]
      by_cases c : u < 0
      · simp [c]
      · by_cases d : 7 < u <;> simp [c, d]
    · simp only [opc_, wf_, bd_s, isCell_e]
      by_cases c : u < 0
      · simp [c]
      · by_cases d : 7 < u <;> simp [c, d]
  · rw [h0]
    rfl
theorem cres_e (h : SI_ v y s o r a b) (hl : LI_ s o r a b) (hu : iR_ (rv_ (v (x0 + 1)) a)) : fX6_resultOf x0 y v = some (if s = 2 then rv_ (v (x0 + 1)) b else dv_ (v (x0 + 2)) s o (rv_ (v (x0 + 1)) a) (rv_ (v (x0 + 1)) b), v) := by
  obtain ⟨h0, -, h2, h3⟩ := h
  have hb : b = 20 → rv_ (v (x0 + 1)) b = 0 := fun q => by rw [q]; rfl
  unfold fX6_resultOf
  rw [h2, cval_e hl.2.1, bd_s]
  dsimp only
  rw [h3, cval_e hl.2.2, bd_s]
  dsimp only
  generalize rv_ (v (x0 + 1)) a = u at hu
  generalize rv_ (v (x0 + 1)) b = w at hb
  rcases h0 with h0 | ⟨h0, rfl, rfl, rfl⟩
  · simp only [h0]
    rcases LI_cases hl with ⟨rfl, rfl⟩ | ⟨rfl, rfl⟩ | ⟨rfl, rfl⟩ | ⟨rfl, rfl⟩ | ⟨rfl, rfl, -⟩ | ⟨rfl, rfl, -⟩
    · rfl
    · rfl
    · rfl
    · by_cases c : w = 0
      · simp [opc_, dv_, wf_, c]
      · simp [opc_, dv_, wf_, c, ck_t]
    · simp only [opc_, dv_, wf_, isCell_e]
      by_cases c : u < 0
      · simp [c, bd_s]
      · by_cases d : 7 < u
        · simp [c, d, bd_s]
        · simp [c, d, bd_s, ck_t (show 0 ≤ u ∧ u < 8 by omega)]
    · rfl
  · simp only [h0, hb rfl]
    unfold iR_ at hu
    simp [dv_, wf_, wr_id (show -2147483648 ≤ u ∧ u < 2147483648 by omega)]
theorem cset_e (h : SI_ v y s o r a b) (hl : LI_ s o r a b) (z u : Int) : fX6_settle x0 y z u v = some (0, se_ v (x0 + 1) (x0 + 2) r (dc_ s u) z) := by
  obtain ⟨h0, h1, -, -⟩ := h
  obtain ⟨hl, -, -⟩ := hl
  unfold fX6_settle se_ dc_
  rw [h1]
  have hop : (v y 0 = 5 ∧ s = 2) ∨ (v y 0 ≠ 5 ∧ s ≠ 2) := by
    unfold opc_ at h0
    rcases h0 with h0 | ⟨h0, rfl, rfl, rfl⟩
    · split at h0
      · omega
      · split at h0 <;> omega
    · omega
  rcases hop with ⟨e, rfl⟩ | ⟨e, e2⟩
  · rw [if_pos e, if_pos rfl, isCell_e, bd_s]
    by_cases c : u < 0
    · simp only [c, if_true]
      rw [if_pos (by decide), if_pos (by omega)]
    · by_cases d : 7 < u
      · simp only [c, d, if_true, if_false]
        rw [if_pos (by decide), if_pos (by omega)]
      · simp only [c, d, if_false]
        rw [if_neg (by decide), ck_t (by omega)]
        rfl
  · rw [if_neg e, if_neg e2, if_neg (show ¬ r < 0 by omega), if_neg (show ¬ 12 ≤ r by omega), ck_t (by omega), if_pos (show (-1 : Int) < 0 by decide), if_neg (show ¬ r < 0 by omega)]
    rfl
theorem se_2 (hl : LI_ s o r a b) {u w ra ca : Int} {M : Int → Int} : se_ v ra ca r (dc_ s u) (if s = 2 then w else dv_ M s o u w) = se_ v ra ca r (dc_ s u) (dv_ M s o u w) := by
  by_cases e : s = 2
  · obtain ⟨hl, -, -⟩ := hl
    subst e
    unfold se_ dc_ dv_ wf_
    by_cases c : u < 0
    · simp [c]; rw [if_pos (by omega), if_pos (by omega)]
    · by_cases d : 7 < u
      · simp [c, d]; rw [if_pos (by omega), if_pos (by omega)]
      · simp [c, d]
  · rw [if_neg e]
/-- of the reference -/
theorem reck_e (hl : LI_ s o r a b) : ∃ w, fX12_reckons 814 s o a b v = some (0, w) ∧ w 814 42 = wf_ s o (rv_ (v 839) a) (rv_ (v 839) b) ∧ w 814 41 = dc_ s (rv_ (v 839) a) ∧ w 814 40 = dv_ (v 840) s o (rv_ (v 839) a) (rv_ (v 839) b) ∧ ∀ q k, ¬ (q = 814 ∧ 40 ≤ k ∧ k ≤ 42) → w q k = v q k := by
  unfold fX12_reckons
  rw [rval_e hl.2.1, bd_s, rval_e hl.2.2, bd_s, lt_d, lt_d, lt_d]
  dsimp only
  generalize rv_ (v 839) a = u
  generalize rv_ (v 839) b = w
  have fin : ∀ (z : V_) (f c d : Int), (z 814 42 = f ∧ z 814 41 = c ∧ z 814 40 = d ∧ ∀ q k, ¬ (q = 814 ∧ 40 ≤ k ∧ k ≤ 42) → z q k = v q k) → ∃ w, some ((0 : Int), z) = some (0, w) ∧ w 814 42 = f ∧ w 814 41 = c ∧ w 814 40 = d ∧ ∀ q k, ¬ (q = 814 ∧ 40 ≤ k ∧ k ≤ 42) → w q k = v q k := fun z f c d h => ⟨z, rfl, h⟩
  have up4 : ∀ (x : V_) (k e : Int), 40 ≤ k → k ≤ 42 → (∀ q j, ¬ (q = 814 ∧ 40 ≤ j ∧ j ≤ 42) → x q j = v q j) → ∀ q j, ¬ (q = 814 ∧ 40 ≤ j ∧ j ≤ 42) → up_ x 814 k e q j = v q j := fun x k e k0 k1 h q j n => by rw [up_n (by omega)]; exact h q j n
  have b0 : ∀ q j, ¬ (q = 814 ∧ 40 ≤ j ∧ j ≤ 42) → up_ (up_ (up_ v 814 42 0) 814 41 (-1)) 814 40 0 q j = v q j := up4 _ _ _ (by decide) (by decide) (up4 _ _ _ (by decide) (by decide) (up4 _ _ _ (by decide) (by decide) fun _ _ _ => rfl))
  rcases LI_cases hl with ⟨rfl, rfl⟩ | ⟨rfl, rfl⟩ | ⟨rfl, rfl⟩ | ⟨rfl, rfl⟩ | ⟨rfl, rfl, -⟩ | ⟨rfl, rfl, -⟩
  · refine fin _ _ _ _ ⟨?_, ?_, up_s ⟨rfl, rfl⟩, up4 _ _ _ (by decide) (by decide) (up4 _ _ _ (by decide) (by decide) b0)⟩ <;> simp (disch := omega) only [up_s, up_n] <;> rfl
  · refine fin _ _ _ _ ⟨?_, ?_, up_s ⟨rfl, rfl⟩, up4 _ _ _ (by decide) (by decide) (up4 _ _ _ (by decide) (by decide) b0)⟩ <;> simp (disch := omega) only [up_s, up_n] <;> rfl
  · refine fin _ _ _ _ ⟨?_, ?_, up_s ⟨rfl, rfl⟩, up4 _ _ _ (by decide) (by decide) (up4 _ _ _ (by decide) (by decide) b0)⟩ <;> simp (disch := omega) only [up_s, up_n] <;> rfl
  · rw [if_pos rfl, if_pos rfl]
    by_cases c : w = 0
    · subst c
      rw [if_pos rfl]
      refine fin _ _ _ _ ⟨?_, ?_, ?_, up4 _ _ _ (by decide) (by decide) b0⟩ <;> simp (disch := omega) only [up_s, up_n] <;> rfl
    · rw [if_neg c]
      unfold fX12_reckons_49 fX12_reckons_50
      rw [ck_t (by decide), lt_d, if_pos (up_s ⟨rfl, rfl⟩), if_neg (by decide), if_neg (by decide), if_neg (by decide), ck_t c, lt_d]
      refine fin _ _ _ _ ⟨?_, ?_, ?_, up4 _ _ _ (by decide) (by decide) (up4 _ _ _ (by decide) (by decide) b0)⟩ <;> simp (disch := omega) only [up_s, up_n]
      · simp [wf_, c]
      · rfl
      · simp [dv_, wf_, c]
  · rw [if_neg (by decide)]
    unfold fX12_in
    by_cases c : u < 0
    · rw [if_pos c, bd_s, if_pos rfl]
      refine fin _ _ _ _ ⟨?_, ?_, ?_, up4 _ _ _ (by decide) (by decide) b0⟩ <;> simp (disch := omega) only [up_s, up_n] <;> simp [wf_, dc_, dv_, c]
    · rw [if_neg c]
      by_cases d : 7 < u
      · rw [if_pos d, bd_s, if_pos rfl]
        refine fin _ _ _ _ ⟨?_, ?_, ?_, up4 _ _ _ (by decide) (by decide) b0⟩ <;> simp (disch := omega) only [up_s, up_n] <;> simp [wf_, dc_, dv_, c, d]
      · rw [if_neg d, bd_s, if_neg n10_]
        unfold fX12_reckons_127 fX12_reckons_149
        rw [ck_t (by decide), lt_d, if_pos (up_s ⟨rfl, rfl⟩), if_neg (by decide), if_pos rfl, ck_t (by omega), lt_d]
        refine fin _ _ _ _ ⟨?_, ?_, ?_, up4 _ _ _ (by decide) (by decide) (up4 _ _ _ (by decide) (by decide) b0)⟩ <;> simp (disch := omega) only [up_s, up_n, Int.reduceAdd] <;> simp [wf_, dc_, dv_, c, d]
  · rw [if_neg (by decide)]
    unfold fX12_in
    by_cases c : u < 0
    · rw [if_pos c, bd_s, if_pos rfl]
      refine fin _ _ _ _ ⟨?_, ?_, ?_, up4 _ _ _ (by decide) (by decide) b0⟩ <;> simp (disch := omega) only [up_s, up_n] <;> simp [wf_, dc_, dv_, c]
    · rw [if_neg c]
      by_cases d : 7 < u
      · rw [if_pos d, bd_s, if_pos rfl]
        refine fin _ _ _ _ ⟨?_, ?_, ?_, up4 _ _ _ (by decide) (by decide) b0⟩ <;> simp (disch := omega) only [up_s, up_n] <;> simp [wf_, dc_, dv_, c, d]
      · rw [if_neg d, bd_s, if_neg n10_]
        unfold fX12_reckons_127 fX12_reckons_149
        rw [ck_t (by decide), lt_d, if_pos (up_s ⟨rfl, rfl⟩), if_pos rfl, lt_d, if_neg (by decide), lt_d]
        refine fin _ _ _ _ ⟨?_, ?_, ?_, up4 _ _ _ (by decide) (by decide) (up4 _ _ _ (by decide) (by decide) (up4 _ _ _ (by decide) (by decide) b0))⟩ <;> simp (disch := omega) only [up_s, up_n, Int.reduceAdd] <;> simp [wf_, dc_, dv_, c, d]
theorem rset_e (hr : r < 12) (hc : v 814 41 < 8) : fX12_sets 814 r v = some (0, se_ v 839 840 r (v 814 41) (v 814 40)) := by
  unfold fX12_sets se_
  by_cases c : v 814 41 < 0
  · rw [if_pos c, if_pos c]
    by_cases d : r < 0
    · rw [if_pos d, if_pos d]
    · rw [if_neg d, if_neg d, ck_t (by omega), lt_d]
      rfl
  · rw [if_neg c, if_neg c, ck_t (by omega), lt_d]
    rfl
end STEP
