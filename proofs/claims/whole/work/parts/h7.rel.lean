/-! layer 2: the relation -/
theorem WF_new {g g' : V_} (h : WF_ g) (G : ∀ a, a ≠ 11 → g' a = g a) : WF_ g' := by
  unfold WF_
  rw [G 0 (by decide), G 1 (by decide), G 2 (by decide), G 3 (by decide), G 4 (by decide), G 5 (by decide), G 6 (by decide), G 7 (by decide), G 8 (by decide), G 9 (by decide), G 10 (by decide)]
  exact h
theorem LF_new {g g' : V_} {L : Int → Int} (h : LF_ g L) (G : ∀ a, a ≠ 11 → g' a = g a) : LF_ g' L := by
  have e1 : ∀ (n : Nat) (b s : Int), ll_ g' b n s = ll_ g b n s := by
    intro n
    induction n with
    | zero => exact fun _ _ => rfl
    | succ n ih =>
      intro b s
      simp only [ll_]
      rw [ih, G 4 (by decide), G 5 (by decide), G 6 (by decide)]
  have e2 : ∀ M b, lw_ g' M b = lw_ g M b := fun M b => by
    unfold lw_ lz_
    rw [e1, G 1 (by decide), G 7 (by decide), G 8 (by decide), G 9 (by decide), G 10 (by decide)]
  unfold LF_ Fx_ Lr_ at *
  simp only [e2, G 0 (by decide)]
  exact h
theorem C_new {v w g g' : V_} {p : Int} (hw : WF_ g) (h : C_ v p g) (h1 : ∀ a k, 12 ≤ a → a < 140 → w a k = v a k) (G : ∀ a, a ≠ 11 → g' a = g a) (h2 : ∀ k, 14 ≤ k → k < 47 → w 141 k = g' 11 (pm_ k)) : C_ w p g' := by
  obtain ⟨c0, c1, c2, -⟩ := h
  unfold C_
  rw [G 0 (by decide), G 1 (by decide), G 2 (by decide), G 3 (by decide), G 4 (by decide), G 5 (by decide), G 6 (by decide), G 7 (by decide), G 8 (by decide), G 9 (by decide), G 10 (by decide)]
  refine ⟨c0, by rw [h1 _ _ (by omega) (by omega)]; exact c1, fun b b0 b1 => ?_, h2⟩
  obtain ⟨e1, e2, e3, e4, e5⟩ := c2 b b0 b1
  have hn := hw.1
  have hl := (hw.2 b b0 b1).1
  refine ⟨by rw [h1 _ _ (by omega) (by omega)]; exact e1, ?_, by rw [h1 _ _ (by omega) (by omega)]; exact e3, by rw [h1 _ _ (by omega) (by omega)]; exact e4, fun i i0 i1 => ?_⟩
  · unfold SE_ at *
    simp only [h1 (p + 56 + b) _ (by omega) (by omega)]
    exact e2
  · have t := e5 i i0 i1
    unfold SL_ at *
    simp only [h1 (p + 8 + (6 * b + i)) _ (by omega) (by omega)]
    exact t
theorem D_new {v w g g' : V_} (h : D_ v g) (h0 : w 814 18 = v 814 18) (h1 : ∀ a k, 823 ≤ a → a ≤ 835 → w a k = v a k) (G : ∀ a, a ≠ 11 → g' a = g a) (h2 : ∀ k, 14 ≤ k → k < 47 → w 838 k = g' 11 k) : D_ w g' := by
  obtain ⟨d0, d1, d2, d3, d4, -⟩ := h
  unfold D_
  rw [h0, G 0 (by decide), G 1 (by decide), G 2 (by decide), G 3 (by decide), G 4 (by decide), G 5 (by decide), G 6 (by decide), G 7 (by decide), G 8 (by decide), G 9 (by decide), G 10 (by decide)]
  refine ⟨d0, ?_, fun k k0 k1 => ?_, fun k k0 k1 => ?_, fun k k0 k1 => ?_, h2⟩
  · rw [h1 _ _ (by decide) (by decide)]; exact d1
  · simp only [h1 826 _ (by decide) (by decide), h1 832 _ (by decide) (by decide), h1 833 _ (by decide) (by decide), h1 834 _ (by decide) (by decide)]; exact d2 k k0 k1
  · simp only [h1 827 _ (by decide) (by decide), h1 828 _ (by decide) (by decide), h1 829 _ (by decide) (by decide), h1 830 _ (by decide) (by decide), h1 831 _ (by decide) (by decide)]; exact d3 k k0 k1
  · rw [h1 _ _ (by decide) (by decide)]; exact d4 k k0 k1
theorem cp38 (v : V_) {k : Int} (k0 : 0 ≤ k) (k1 : k < 47) : cp_ v 837 0 838 0 47 838 k = v 837 k := by
  rw [cp_i ⟨rfl, k0, by omega⟩]
  congr 1
  omega
/-- a row, and what a program is -/
def gw_' (g : V_) (f : Int → Int) : V_ := fun a k => if a = 11 then f k else g a k
theorem gn_G (g : V_) (f : Int → Int) : ∀ a, a ≠ 11 → gw_' g f a = g a := fun a h => funext fun k => if_neg h
theorem RG_row {vc vr g : V_} (h : RW_ vc 141 vr 837 0) : RG_ (gw_' g (vr 837)) := by
  obtain ⟨⟨o1, o2, o3, o4, o5⟩, hr⟩ := h
  have e : ∀ k, gw_' g (vr 837) 11 k = vr 837 k := fun k => if_pos rfl
  have r : ∀ k, 0 ≤ k → k < 47 → vr 837 (pm_ k) = vc 141 k := fun k k0 k1 => by
    have := hr k k0 k1
    rw [Int.zero_add] at this
    exact this
  have low : ∀ k, 0 ≤ k → k < 38 → vr 837 k = vc 141 k := fun k k0 k1 => by
    have := r k k0 (by omega)
    rw [show pm_ k = k from if_pos k1] at this
    exact this
  have mid : ∀ k, 39 ≤ k → k < 47 → vr 837 k = vc 141 (k - 1) := fun k k0 k1 => by
    have := r (k - 1) (by omega) (by omega)
    rw [show pm_ (k - 1) = k by unfold pm_; rw [if_neg (by omega), if_neg (by omega)]; omega] at this
    exact this
  have h46 : vr 837 38 = vc 141 46 := by
    have := r 46 (by omega) (by omega)
    rw [show pm_ 46 = 38 from rfl] at this
    exact this
  refine ⟨?_, fun k k0 k1 => ?_, fun k k0 k1 => ?_, fun k k0 k1 => ?_, fun k k0 k1 => ?_⟩
  · rw [e, h46]; exact o1
  · rw [e, low k k0 (by omega)]; exact o2 k k0 k1
  · rw [e, low k (by omega) k1]; exact o3 k k0 k1
  · rw [e, mid k k0 (by omega)]; exact o4 (k - 1) (by omega) (by omega)
  · rw [e, mid k (by omega) k1]; exact o5 (k - 1) (by omega) (by omega)
/-- the state is another, the program the same: nothing is known any more -/
theorem new_X {g vc vr vc' vr' : V_} {p : Int} (h : CX_ g p vc vr) (hS : RS_ vc' vr') (f1 : ∀ a k, 1 ≤ a → a < 140 → ¬ (a = 1 ∧ 11 ≤ k ∧ k ≤ 13) → vc' a k = vc a k) (f2 : ∀ a k, 823 ≤ a → a ≤ 835 → vr' a k = vr a k) (f18 : vr' 814 18 = vr 814 18) (z : vr' 814 69 = 0 ∧ vc' 1 11 = 0 ∧ vc' 1 12 = 0 ∧ vc' 1 13 = 0) : ∃ g', CX_ g' p vc' vr' := by
  obtain ⟨hw, -, hC, hp, hF, hD, -, -⟩ := h
  have hpb := hC.1
  have hn := hw.1
  have G := gn_G g (vr' 837)
  have row : ∀ k, 0 ≤ k → k < 47 → vr' 837 (pm_ k) = vc' 141 k := fun k k0 k1 => by
    have := hS.1.2 k k0 k1
    rw [Int.zero_add] at this
    exact this
  refine ⟨gw_' g (vr' 837), WF_new hw G, RG_row hS.1, C_new hw hC (fun a k q q2 => f1 a k (by omega) q2 (by omega)) G (fun k k0 k1 => ?_), ?_, ?_, D_new hD ?_ (fun a k q q2 => ?_) G (fun k k0 k1 => ?_), fun k k0 k1 => ⟨?_, ?_⟩, ⟨Or.inl z.2.1, Or.inl z.1, Or.inl z.2.2.1, Or.inl z.2.2.2⟩⟩
  · rw [show gw_' g (vr' 837) 11 (pm_ k) = vr' 837 (pm_ k) from if_pos rfl]
    exact (row k (by omega) k1).symm
  · rw [f1 _ _ (by omega) (by omega) (by omega)]; exact hp
  · have e : vc' (p + 5) = vc (p + 5) := funext fun k => f1 _ _ (by omega) (by omega) (by omega)
    rw [e]
    exact LF_new hF G
  · rw [cp_o (by omega), cp_o (by omega)]; exact f18
  · rw [cp_o (by omega), cp_o (by omega)]; exact f2 a k q q2
  · rw [cp38 _ (by omega) k1]
    exact (if_pos rfl).symm
  · have := row k k0 (by omega)
    rw [show pm_ k = k from if_pos (by omega)] at this
    exact this
  · exact hS.1.1.2.1 k k0 k1
/-- registers or cells alone are others -/
theorem low_X {g vc vr vc' vr' : V_} {p : Int} (h : CX_ g p vc vr) (hS : RS_ vc' vr') (hS0 : RS_ vc vr) (f1 : Fs1_ vc vc') (f2 : Fs2_ vr vr') (z : vr' 814 69 = 0 ∧ vc' 1 12 = 0 ∧ vc' 1 13 = 0) (h11 : vc' 1 11 = vc 1 11) (hr : ∀ k, 14 ≤ k → vc' 141 k = vc 141 k) : CX_ g p vc' vr' := by
  obtain ⟨hw, hg, hC, hp, hF, hD, -, hA⟩ := h
  have hpb := hC.1
  have row : ∀ k, 0 ≤ k → k < 47 → vr' 837 (pm_ k) = vc' 141 k := fun k k0 k1 => by
    have := hS.1.2 k k0 k1
    rw [Int.zero_add] at this
    exact this
  have row0 : ∀ k, 0 ≤ k → k < 47 → vr 837 (pm_ k) = vc 141 k := fun k k0 k1 => by
    have := hS0.1.2 k k0 k1
    rw [Int.zero_add] at this
    exact this
  have hi : ∀ k, 14 ≤ k → k < 47 → vr' 837 k = vr 837 k := fun k k0 k1 => by
    by_cases c : k < 38
    · have a := row k (by omega) k1
      have b := row0 k (by omega) k1
      rw [show pm_ k = k from if_pos c] at a b
      rw [a, b, hr k k0]
    · by_cases c2 : k = 38
      · have a := row 46 (by omega) (by omega)
        have b := row0 46 (by omega) (by omega)
        rw [show pm_ 46 = 38 from rfl] at a b
        rw [c2, a, b, hr 46 (by omega)]
      · have a := row (k - 1) (by omega) (by omega)
        have b := row0 (k - 1) (by omega) (by omega)
        rw [show pm_ (k - 1) = k by unfold pm_; rw [if_neg (by omega), if_neg (by omega)]; omega] at a b
        rw [a, b, hr (k - 1) (by omega)]
  have F1 : ∀ a k, ¬ (141 ≤ a ∧ a ≤ 188) → ¬ (a = 1 ∧ 11 ≤ k ∧ k ≤ 13) → vc' a k = vc a k := f1
  refine ⟨hw, hg, C_fr hw hC (fun a k q q2 => F1 a k (by omega) (by omega)) (fun k k0 _ => hr k k0), ?_, ?_, D_fr hD ?_ (fun a k q q2 => ?_) (fun k k0 k1 => ?_), fun k k0 k1 => ⟨?_, ?_⟩, ⟨?_, Or.inl z.1, Or.inl z.2.1, Or.inl z.2.2⟩⟩
  · rw [F1 _ _ (by omega) (by omega)]; exact hp
  · have e : vc' (p + 5) = vc (p + 5) := funext fun k => F1 _ _ (by omega) (by omega)
    rw [e]
    exact hF
  · rw [cp_o (by omega), cp_o (by omega)]
    exact f2 _ _ (by omega) (by omega) (by omega) (by omega) (by omega) (by omega)
  · rw [cp_o (by omega), cp_o (by omega)]
    exact f2 _ _ (by omega) (by omega) (by omega) (by omega) (by omega) (by omega)
  · rw [cp38 _ (by omega) k1, cp38 _ (by omega) k1]
    exact hi k k0 k1
  · have := row k k0 (by omega)
    rw [show pm_ k = k from if_pos (by omega)] at this
    exact this
  · exact hS.1.1.2.1 k k0 k1
  · rw [h11]
    rcases hA.1 with q | ⟨q, q2⟩
    · exact Or.inl q
    · exact Or.inr ⟨q, Kpl_fr hw hC q2 (fun a k _ _ _ => F1 a k (by omega) (by omega)) (fun k => F1 _ _ (by omega) (by omega))⟩
theorem chg_X {g vc vr vc' vr' : V_} {p : Int} (h : CX_ g p vc vr) (hS0 : RS_ vc vr) (hc : Ch_ vc vr vc' vr') : ∃ g', CX_ g' p vc' vr' := by
  obtain ⟨hS, f1, f2, z69, z12, z13, z⟩ := hc
  rcases z with z | ⟨z, hr⟩
  · exact new_X h hS (fun a k q q2 q3 => f1 a k (by omega) q3) (fun a k q q2 => f2 a k (by omega) (by omega) (by omega) (by omega) (by omega) (by omega)) (f2 _ _ (by omega) (by omega) (by omega) (by omega) (by omega) (by omega)) ⟨z69, z, z12, z13⟩
  · exact ⟨g, low_X h hS hS0 f1 f2 ⟨z69, z12, z13⟩ z hr⟩
