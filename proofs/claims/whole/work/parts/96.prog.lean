/-! layer 2: the program and the row, as both hold them -/
/-- a value of the reference, as the class tells it -/
def vl_ (a : Int) : Int := if a < 20 then -1 - a else a - 20
def opc_ (s o : Int) : Int := if s = 0 then o else if s = 1 then 4 else 5
def kn_ (s o : Int) : Int := if 0 < s then 2 else if 1 < o then 1 else 0
def VR_ (a : Int) : Prop := (0 ≤ a ∧ a < 6) ∨ (20 ≤ a ∧ a < 10020)
def VA_ (a : Int) : Prop := (0 ≤ a ∧ a < 12) ∨ (20 ≤ a ∧ a < 10020)
/-- a line: its sort, op, register, values -/
def LN_ (s o r a b : Int) : Prop := ((s = 0 ∧ 0 ≤ o ∧ o ≤ 3 ∧ 0 ≤ r ∧ r < 6) ∨ (s = 1 ∧ o = 0 ∧ 0 ≤ r ∧ r < 6 ∧ b = 20) ∨ (s = 2 ∧ o = 0 ∧ r = -2)) ∧ VR_ a ∧ VR_ b
/-- an end among m blocks -/
def EN_ (m e a b t u : Int) : Prop := (e = 0 ∧ a = 20 ∧ b = 20 ∧ 0 ≤ t ∧ t < m ∧ u = -2) ∨ (e = 1 ∧ VR_ a ∧ VR_ b ∧ 0 ≤ t ∧ t < m ∧ 0 ≤ u ∧ u < m) ∨ (e = 2 ∧ a = 20 ∧ b = 20 ∧ t = -2 ∧ u = -2)
/-- a program: 0 how many blocks, 1 their lines, 2 to 6 the lines, 7 to 9 the ends, 10 the ways -/
def WF_ (g : V_) : Prop := (0 ≤ g 0 0 ∧ g 0 0 ≤ 8) ∧ ∀ b, 0 ≤ b → b < g 0 0 → (0 ≤ g 1 b ∧ g 1 b ≤ 6) ∧ EN_ (g 0 0) (g 7 b) (g 8 b) (g 9 b) (g 10 (2 * b)) (g 10 (2 * b + 1)) ∧ ∀ i, 0 ≤ i → i < g 1 b → LN_ (g 2 (6 * b + i)) (g 3 (6 * b + i)) (g 4 (6 * b + i)) (g 5 (6 * b + i)) (g 6 (6 * b + i))
/-- a row, as the reference has it (11) -/
def RG_ (g : V_) : Prop := (g 11 38 = 0 ∨ g 11 38 = 1) ∧ (∀ k, 0 ≤ k → k < 14 → iR_ (g 11 k)) ∧ (∀ k, 14 ≤ k → k < 38 → 0 ≤ g 11 k ∧ g 11 k ≤ 1000000) ∧ (∀ k, 39 ≤ k → k < 43 → 1 ≤ g 11 k ∧ g 11 k ≤ 4) ∧ ∀ k, 43 ≤ k → k < 47 → 1 ≤ g 11 k ∧ g 11 k ≤ 6
/-- the reference holds it -/
def D_ (v g : V_) : Prop := (0 ≤ v 814 18 ∧ v 814 18 < 2) ∧ v 823 (v 814 18) = g 0 0 ∧ (∀ k, 0 ≤ k → k < 8 → v 826 (8 * v 814 18 + k) = g 1 k ∧ v 832 (8 * v 814 18 + k) = g 7 k ∧ v 833 (8 * v 814 18 + k) = g 8 k ∧ v 834 (8 * v 814 18 + k) = g 9 k) ∧ (∀ k, 0 ≤ k → k < 48 → v 827 (48 * v 814 18 + k) = g 2 k ∧ v 828 (48 * v 814 18 + k) = g 3 k ∧ v 829 (48 * v 814 18 + k) = g 4 k ∧ v 830 (48 * v 814 18 + k) = g 5 k ∧ v 831 (48 * v 814 18 + k) = g 6 k) ∧ (∀ k, 0 ≤ k → k < 16 → v 835 (16 * v 814 18 + k) = g 10 k) ∧ ∀ k, 14 ≤ k → k < 47 → v 838 k = g 11 k
theorem D_fr {v w g : V_} (h : D_ v g) (h0 : w 814 18 = v 814 18) (h1 : ∀ a k, 823 ≤ a → a ≤ 835 → w a k = v a k) (h2 : ∀ k, 14 ≤ k → k < 47 → w 838 k = v 838 k) : D_ w g := by
  obtain ⟨d0, d1, d2, d3, d4, d5⟩ := h
  unfold D_
  rw [h0]
  refine ⟨d0, ?_, fun k k0 k1 => ?_, fun k k0 k1 => ?_, fun k k0 k1 => ?_, fun k q1 q2 => ?_⟩
  · rw [h1 _ _ (by decide) (by decide)]; exact d1
  · simp only [h1 826 _ (by decide) (by decide), h1 832 _ (by decide) (by decide), h1 833 _ (by decide) (by decide), h1 834 _ (by decide) (by decide)]; exact d2 k k0 k1
  · simp only [h1 827 _ (by decide) (by decide), h1 828 _ (by decide) (by decide), h1 829 _ (by decide) (by decide), h1 830 _ (by decide) (by decide), h1 831 _ (by decide) (by decide)]; exact d3 k k0 k1
  · rw [h1 _ _ (by decide) (by decide)]; exact d4 k k0 k1
  · rw [h2 _ q1 q2]; exact d5 k q1 q2
/-- a step of the class at y: line, end -/
def SL_ (v : V_) (y s o r a b : Int) : Prop := v y 0 = opc_ s o ∧ v y 1 = r ∧ v y 2 = vl_ a ∧ v y 3 = vl_ b
def SE_ (v : V_) (y e a b : Int) : Prop := v y 0 = 7 + e ∧ v y 1 = -2 ∧ v y 2 = vl_ a ∧ v y 3 = vl_ b
/-- the class holds it at p -/
def C_ (v : V_) (p : Int) (g : V_) : Prop := (p = 12 ∨ p = 76) ∧ v p 0 = g 0 0 ∧ (∀ b, 0 ≤ b → b < g 0 0 → v (p + 1) b = g 1 b ∧ SE_ v (p + 56 + b) (g 7 b) (g 8 b) (g 9 b) ∧ v (p + 4) (2 * b) = g 10 (2 * b) ∧ v (p + 4) (2 * b + 1) = g 10 (2 * b + 1) ∧ ∀ i, 0 ≤ i → i < g 1 b → SL_ v (p + 8 + (6 * b + i)) (g 2 (6 * b + i)) (g 3 (6 * b + i)) (g 4 (6 * b + i)) (g 5 (6 * b + i)) (g 6 (6 * b + i))) ∧ ∀ k, 14 ≤ k → k < 47 → v 141 k = g 11 (pm_ k)
theorem C_fr {v w g : V_} {p : Int} (hw : WF_ g) (h : C_ v p g) (h1 : ∀ a k, 12 ≤ a → a < 140 → w a k = v a k) (h2 : ∀ k, 14 ≤ k → k < 47 → w 141 k = v 141 k) : C_ w p g := by
  obtain ⟨c0, c1, c2, c3⟩ := h
  refine ⟨c0, by rw [h1 _ _ (by omega) (by omega)]; exact c1, fun b b0 b1 => ?_, fun k k0 k1 => by rw [h2 k k0 k1]; exact c3 k k0 k1⟩
  obtain ⟨e1, e2, e3, e4, e5⟩ := c2 b b0 b1
  have hn := hw.1
  have hl := (hw.2 b b0 b1).1
  refine ⟨by rw [h1 _ _ (by omega) (by omega)]; exact e1, ?_, by rw [h1 _ _ (by omega) (by omega)]; exact e3, by rw [h1 _ _ (by omega) (by omega)]; exact e4, fun i i0 i1 => ?_⟩
  · unfold SE_ at *
    simp only [h1 (p + 56 + b) _ (by omega) (by omega)]
    exact e2
  · have t := e5 i i0 i1
    unfold SL_ at *
    simp only [h1 (p + 8 + (6 * b + i)) _ (by omega) (by omega)]
    exact t
section ACC
variable {v g : V_} {b i w k : Int}
theorem linesOf_e (h : D_ v g) (hb : 0 ≤ b ∧ b < 8) : fX12_linesOf 814 b v = some (g 1 b, v) := by
  obtain ⟨h1, h2, h3, h4, h5, h6⟩ := h
  simp (disch := omega) only [fX12_linesOf, wr_id, ck_t, Int.reduceAdd, h3]
theorem endOf_e (h : D_ v g) (hb : 0 ≤ b ∧ b < 8) : fX12_endOf 814 b v = some (g 7 b, v) := by
  obtain ⟨h1, h2, h3, h4, h5, h6⟩ := h
  simp (disch := omega) only [fX12_endOf, wr_id, ck_t, Int.reduceAdd, h3]
theorem wayTo_e (h : D_ v g) (hb : 0 ≤ b ∧ b < 8) (hw : 0 ≤ w ∧ w < 2) : fX12_wayTo 814 b w v = some (g 10 (2 * b + w), v) := by
  obtain ⟨h1, h2, h3, h4, h5, h6⟩ := h
  simp (disch := omega) only [fX12_wayTo, wr_id, ck_t, Int.reduceAdd, Int.add_assoc, h5]
theorem waysOf_e (h : D_ v g) (hb : 0 ≤ b ∧ b < 8) (he : 0 ≤ g 7 b ∧ g 7 b ≤ 2) : fX12_waysOf 814 b v = some (if g 7 b = 2 then 0 else g 7 b + 1, v) := by
  unfold fX12_waysOf
  rw [endOf_e h hb, bd_s]
  by_cases c : g 7 b = 2
  · rw [if_pos c, if_pos c]
  · rw [if_neg c, if_neg c, endOf_e h hb, bd_s, wr_id (by dsimp only; omega)]
theorem lineAt_e (h : D_ v g) (hb : 0 ≤ b ∧ b < 8) (hi : 0 ≤ i ∧ i < 6) : fX12_lineAt 814 b i v = some (48 * v 814 18 + (6 * b + i), v) := by
  obtain ⟨h1, h2, h3, h4, h5, h6⟩ := h
  simp (disch := omega) only [fX12_lineAt, wr_id, Int.add_assoc]
theorem kindOf_e (h : D_ v g) (hk : 0 ≤ k ∧ k < 48) : fX12_kindOf 814 (48 * v 814 18 + k) v = some (kn_ (g 2 k) (g 3 k), v) := by
  obtain ⟨h1, h2, h3, h4, h5, h6⟩ := h
  unfold fX12_kindOf kn_
  simp (disch := omega) only [Int.reduceAdd, h4]
  rw [ck_t (by omega)]
  by_cases c : 0 < g 2 k
  · rw [if_neg (by omega), if_pos c]
  · rw [if_pos (by omega), if_neg c, ck_t (by omega)]
    by_cases d : 1 < g 3 k
    · rw [if_neg (by omega), if_pos d]
    · rw [if_pos (by omega), if_neg d]
theorem takesOf_e (h : D_ v g) (hk : 0 ≤ k ∧ k < 4) : fX12_takesOf 814 k v = some (g 11 (43 + k), v) := by
  obtain ⟨h1, h2, h3, h4, h5, h6⟩ := h
  simp (disch := omega) only [fX12_takesOf, wr_id, ck_t, Int.reduceAdd, h6]
theorem begunOf_e (h : D_ v g) (hb : 0 ≤ b ∧ b < 8) : fX12_begunOf 814 b v = some (g 11 (14 + b), v) := by
  obtain ⟨h1, h2, h3, h4, h5, h6⟩ := h
  simp (disch := omega) only [fX12_begunOf, wr_id, ck_t, Int.reduceAdd, h6]
theorem goneOf_e (h : D_ v g) (hb : 0 ≤ b ∧ b < 8) (hw : 0 ≤ w ∧ w < 2) : fX12_goneOf 814 b w v = some (g 11 (22 + (2 * b + w)), v) := by
  obtain ⟨h1, h2, h3, h4, h5, h6⟩ := h
  simp (disch := omega) only [fX12_goneOf, wr_id, ck_t, Int.reduceAdd, Int.add_assoc, h6]
theorem isBlock_e (h : D_ v g) (hn : 0 ≤ g 0 0 ∧ g 0 0 ≤ 8) : fX12_isBlock 814 b v = some (if 0 ≤ b ∧ b < g 0 0 then 1 else 0, v) := by
  obtain ⟨h1, h2, h3, h4, h5, h6⟩ := h
  simp (disch := omega) only [fX12_isBlock, ck_t, Int.reduceAdd, h2, wr_id, fX12_in]
  by_cases c1 : b < 0
  · rw [if_pos c1, bd_s, ck_t (Or.inl rfl), if_neg (by omega)]
  · rw [if_neg c1]
    by_cases c2 : g 0 0 - 1 < b
    · rw [if_pos c2, bd_s, ck_t (Or.inl rfl), if_neg (by omega)]
    · rw [if_neg c2, bd_s, ck_t (Or.inr rfl), if_pos (by omega)]
variable {p : Int}
theorem leadsTo_e (hw : WF_ g) (h : C_ v p g) (hb : 0 ≤ b ∧ b < g 0 0) (hi : 0 ≤ w ∧ w < 2) : fX5_leadsTo p b w v = some (g 10 (2 * b + w), v) := by
  have hn := hw.1
  obtain ⟨e1, e2, e3, e4, e5⟩ := h.2.2.1 b hb.1 hb.2
  simp (disch := omega) only [fX5_leadsTo, wr_id, ck_t]
  rcases (by omega : w = 0 ∨ w = 1) with rfl | rfl
  · rw [show b * 2 + 0 = 2 * b by omega, show 2 * b + 0 = 2 * b by omega, e3]
  · rw [show b * 2 + 1 = 2 * b + 1 by omega, e4]
theorem cbegun_e (h : C_ v p g) (hb : 0 ≤ b ∧ b < 8) : fX7_begunOf 140 b v = some (g 11 (14 + b), v) := by
  have e := h.2.2.2 (14 + b) (by omega) (by omega)
  rw [show pm_ (14 + b) = 14 + b from if_pos (by omega)] at e
  simp (disch := omega) only [fX7_begunOf, wr_id, ck_t, Int.reduceAdd, e]
theorem cgone_e (h : C_ v p g) (hb : 0 ≤ b ∧ b < 8) (hi : 0 ≤ w ∧ w < 2) : fX7_goneOf 140 b w v = some (g 11 (22 + (2 * b + w)), v) := by
  have e := h.2.2.2 (22 + (2 * b + w)) (by omega) (by omega)
  rw [show pm_ (22 + (2 * b + w)) = 22 + (2 * b + w) from if_pos (by omega)] at e
  simp (disch := omega) only [fX7_goneOf, wr_id, ck_t, Int.reduceAdd]
  rw [show 22 + b * 2 + w = 22 + (2 * b + w) by omega, e]
theorem clat_e (h : C_ v p g) (hk : 0 ≤ k ∧ k < 4) : fX7_latencyOf 140 k v = some (g 11 (43 + k), v) := by
  have e := h.2.2.2 (42 + k) (by omega) (by omega)
  rw [show pm_ (42 + k) = 43 + k by unfold pm_; rw [if_neg (by omega), if_neg (by omega)]; omega] at e
  simp (disch := omega) only [fX7_latencyOf, wr_id, ck_t, Int.reduceAdd, e]
theorem cunit_e (h : C_ v p g) (hk : 0 ≤ k ∧ k < 4) : fX7_unitsOf 140 k v = some (g 11 (39 + k), v) := by
  have e := h.2.2.2 (38 + k) (by omega) (by omega)
  rw [show pm_ (38 + k) = 39 + k by unfold pm_; rw [if_neg (by omega), if_neg (by omega)]; omega] at e
  simp (disch := omega) only [fX7_unitsOf, wr_id, ck_t, Int.reduceAdd, e]
theorem cren_e (h : C_ v p g) : fX7_renames 140 v = some (if g 11 38 = 1 then 1 else 0, v) := by
  have e := h.2.2.2 46 (by omega) (by omega)
  rw [show pm_ 46 = 38 from rfl] at e
  unfold fX7_renames
  simp only [Int.reduceAdd, e]
  split <;> rfl
end ACC
/-- the kind of a step: of an end, of a line, of a copy -/
theorem kind_end {v : V_} {y e : Int} (h : v y 0 = 7 + e) (he : 0 ≤ e ∧ e ≤ 2) : fX8_kindOf y v = some (3, v) := by
  unfold fX8_kindOf
  rw [h]
  rcases (by omega : e = 0 ∨ e = 1 ∨ e = 2) with rfl | rfl | rfl <;> rfl
theorem kind_copy {v : V_} {y : Int} (h : v y 0 = 6) : fX8_kindOf y v = some (0, v) := by
  unfold fX8_kindOf
  rw [h]
  rfl
theorem LN_cases {s o r a b : Int} (h : LN_ s o r a b) : (s = 0 ∧ o = 0) ∨ (s = 0 ∧ o = 1) ∨ (s = 0 ∧ o = 2) ∨ (s = 0 ∧ o = 3) ∨ (s = 1 ∧ o = 0 ∧ b = 20) ∨ (s = 2 ∧ o = 0 ∧ r = -2) := by
  obtain ⟨h, -, -⟩ := h
  omega
theorem kind_line {v : V_} {y s o r a b : Int} (h : v y 0 = opc_ s o) (hl : LN_ s o r a b) : fX8_kindOf y v = some (kn_ s o, v) := by
  unfold fX8_kindOf
  rw [h]
  rcases LN_cases hl with ⟨rfl, rfl⟩ | ⟨rfl, rfl⟩ | ⟨rfl, rfl⟩ | ⟨rfl, rfl⟩ | ⟨rfl, rfl, -⟩ | ⟨rfl, rfl, -⟩ <;> rfl
