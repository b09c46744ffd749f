/-! layer 2: live registers, a least fixed point in both -/
def lb_ (a : Int) : Int := if a < 6 then sL_ 1 a else 0
theorem lb_64 {a : Int} (h : VR_ a) : 0 ≤ lb_ a ∧ lb_ a < 64 := by
  unfold lb_ VR_ at *
  split
  · exact sL_64 (by omega)
  · decide
theorem bO_0l {x : Int} (hx : 0 ≤ x ∧ x < 256) : bO_ 0 x = x := by
  obtain ⟨n, rfl⟩ := Int.eq_ofNat_of_zero_le hx.1
  rw [show (0 : Int) = ((0 : Nat) : Int) from rfl, bO_n (by decide) (by omega), Nat.zero_or]
theorem bO_0r {x : Int} (hx : 0 ≤ x ∧ x < 256) : bO_ x 0 = x := by
  obtain ⟨n, rfl⟩ := Int.eq_ofNat_of_zero_le hx.1
  rw [show (0 : Int) = ((0 : Nat) : Int) from rfl, bO_n (by omega) (by decide), Nat.or_zero]
theorem bO_swap {x y z w : Int} (hx : 0 ≤ x ∧ x < 64) (hy : 0 ≤ y ∧ y < 64) (hz : 0 ≤ z ∧ z < 64) (hw : 0 ≤ w ∧ w < 64) : bO_ (bO_ (bO_ 0 x) y) (bO_ z w) = bO_ (bO_ (bO_ z w) x) y := by
  have a1 := bO_64 hx hy
  have a2 := bO_64 hz hw
  have a3 := bO_64 a2 hx
  rw [bO_0l (by omega)]
  have b1 := bO_64 a1 a2
  have b2 := bO_64 a3 hy
  refine bt_ext (by omega) (by omega) fun q _ _ => ?_
  rw [(bO_e (by omega) (by omega)).2, (bO_e (by omega) (by omega)).2, (bO_e (x := bO_ (bO_ z w) x) (by omega) (by omega)).2, (bO_e (x := bO_ z w) (by omega) (by omega)).2]
  cases bt_ x q <;> cases bt_ y q <;> cases bt_ (bO_ z w) q <;> rfl
def ll_ (g : V_) (b : Int) : Nat → Int → Int
  | 0, s => s
  | i + 1, s => ll_ g b i (bO_ (if g 4 (6 * b + i) < 0 then s else bA_ s (bX_ (sL_ 1 (g 4 (6 * b + i))) (-1))) (bO_ (lb_ (g 5 (6 * b + i))) (lb_ (g 6 (6 * b + i)))))
def lz_ (g : V_) (L : Int → Int) (b : Int) : Int := if g 7 b = 2 then 63 else if g 7 b = 1 then bO_ (bO_ (bO_ (lb_ (g 8 b)) (lb_ (g 9 b))) (L (g 10 (2 * b)))) (L (g 10 (2 * b + 1))) else L (g 10 (2 * b))
/-- what is live above a block, if L is behind it -/
def lw_ (g : V_) (L : Int → Int) (b : Int) : Int := ll_ g b (g 1 b).toNat (lz_ g L b)
def Su_ (x y : Int) : Prop := ∀ r, 0 ≤ r → r < 8 → bt_ x r = true → bt_ y r = true
def r6_ (x : Int) : Prop := 0 ≤ x ∧ x < 64
theorem LN_r {s o r a b : Int} (h : LN_ s o r a b) : r < 6 ∧ VR_ a ∧ VR_ b := by
  obtain ⟨h, h1, h2⟩ := h
  exact ⟨by omega, h1, h2⟩
theorem ll_rg {g : V_} {b : Int} : ∀ (d : Nat) (s : Int), (∀ i : Int, 0 ≤ i → i < d → LN_ (g 2 (6 * b + i)) (g 3 (6 * b + i)) (g 4 (6 * b + i)) (g 5 (6 * b + i)) (g 6 (6 * b + i))) → r6_ s → r6_ (ll_ g b d s) := by
  intro d
  induction d with
  | zero => exact fun s _ h => h
  | succ d ih =>
    intro s hl hs
    obtain ⟨h1, h2, h3⟩ := LN_r (hl d (by omega) (by omega))
    refine ih _ (fun i h0 hi => hl i h0 (by omega)) (bO_64 ?_ (bO_64 (lb_64 h2) (lb_64 h3)))
    unfold r6_ at hs
    split
    · exact hs
    · have := (nA_e (x := s) (r := g 4 (6 * b + d)) (by omega) (by omega)).1
      omega
theorem ll_mono {g : V_} {b : Int} : ∀ (d : Nat) (s t : Int), (∀ i : Int, 0 ≤ i → i < d → LN_ (g 2 (6 * b + i)) (g 3 (6 * b + i)) (g 4 (6 * b + i)) (g 5 (6 * b + i)) (g 6 (6 * b + i))) → r6_ s → r6_ t → Su_ s t → Su_ (ll_ g b d s) (ll_ g b d t) := by
  intro d
  induction d with
  | zero => exact fun s t _ _ _ h => h
  | succ d ih =>
    intro s t hl hs ht h
    obtain ⟨h1, h2, h3⟩ := LN_r (hl d (by omega) (by omega))
    have hq := bO_64 (lb_64 h2) (lb_64 h3)
    unfold r6_ at hs ht
    have hu : ∀ x, 0 ≤ x ∧ x < 64 → ¬ g 4 (6 * b + d) < 0 → 0 ≤ bA_ x (bX_ (sL_ 1 (g 4 (6 * b + d))) (-1)) ∧ bA_ x (bX_ (sL_ 1 (g 4 (6 * b + d))) (-1)) < 64 := fun x hx c => by
      have := (nA_e (x := x) (r := g 4 (6 * b + d)) (by omega) (by omega)).1
      omega
    by_cases c : g 4 (6 * b + d) < 0
    · simp only [ll_, if_pos c]
      refine ih _ _ (fun i h0 hi => hl i h0 (by omega)) (bO_64 hs hq) (bO_64 ht hq) fun r r0 r1 hr => ?_
      rw [(bO_e (by omega) (by omega)).2, Bool.or_eq_true] at hr ⊢
      rcases hr with hr | hr
      · exact Or.inl (h r r0 r1 hr)
      · exact Or.inr hr
    · simp only [ll_, if_neg c]
      have u1 := hu s hs c
      have u2 := hu t ht c
      refine ih _ _ (fun i h0 hi => hl i h0 (by omega)) (bO_64 u1 hq) (bO_64 u2 hq) fun r r0 r1 hr => ?_
      rw [(bO_e (by omega) (by omega)).2, Bool.or_eq_true] at hr ⊢
      rcases hr with hr | hr
      · left
        rw [(nA_e (by omega) (by omega)).2 r r0 r1, Bool.and_eq_true] at hr ⊢
        exact ⟨h r r0 r1 hr.1, hr.2⟩
      · exact Or.inr hr
section LIVE
variable {g : V_} {L M : Int → Int} {b : Int}
def Lr_ (g : V_) (L : Int → Int) : Prop := ∀ b, 0 ≤ b → b < g 0 0 → r6_ (L b)
theorem lz_rg (hw : WF_ g) (hL : Lr_ g L) (hb : 0 ≤ b ∧ b < g 0 0) : r6_ (lz_ g L b) := by
  obtain ⟨-, he, -⟩ := hw.2 b hb.1 hb.2
  unfold lz_
  rcases he with ⟨q0, q1, q2, q3, q4, q5⟩ | ⟨q0, q1, q2, q3, q4, q5, q6⟩ | ⟨q0, q1, q2, q3, q4⟩
  · rw [if_neg (by omega), if_neg (by omega)]
    exact hL _ q3 q4
  · rw [if_neg (by omega), if_pos q0]
    exact bO_64 (bO_64 (bO_64 (lb_64 q1) (lb_64 q2)) (hL _ q3 q4)) (hL _ q5 q6)
  · rw [if_pos q0]
    exact ⟨by decide, by decide⟩
theorem lz_mono (hw : WF_ g) (hL : Lr_ g L) (hM : Lr_ g M) (hb : 0 ≤ b ∧ b < g 0 0) (h : ∀ b, 0 ≤ b → b < g 0 0 → Su_ (L b) (M b)) : Su_ (lz_ g L b) (lz_ g M b) := by
  obtain ⟨-, he, -⟩ := hw.2 b hb.1 hb.2
  unfold lz_
  rcases he with ⟨q0, q1, q2, q3, q4, q5⟩ | ⟨q0, q1, q2, q3, q4, q5, q6⟩ | ⟨q0, q1, q2, q3, q4⟩
  · rw [if_neg (by omega), if_neg (by omega), if_neg (by omega), if_neg (by omega)]
    exact h _ q3 q4
  · rw [if_neg (by omega), if_pos q0, if_neg (by omega), if_pos q0]
    have a1 := bO_64 (lb_64 q1) (lb_64 q2)
    have l1 := hL _ q3 q4
    have l2 := hL _ q5 q6
    have m1 := hM _ q3 q4
    have m2 := hM _ q5 q6
    unfold r6_ at l1 l2 m1 m2
    have a2 := bO_64 a1 l1
    have a3 := bO_64 a1 m1
    intro r r0 r1 hr
    rw [(bO_e (by omega) (by omega)).2, (bO_e (by omega) (by omega)).2, Bool.or_eq_true, Bool.or_eq_true] at hr ⊢
    rcases hr with (hr | hr) | hr
    · exact Or.inl (Or.inl hr)
    · exact Or.inl (Or.inr (h _ q3 q4 r r0 r1 hr))
    · exact Or.inr (h _ q5 q6 r r0 r1 hr)
  · rw [if_pos q0, if_pos q0]
    exact fun _ _ _ h => h
theorem lw_rg (hw : WF_ g) (hL : Lr_ g L) (hb : 0 ≤ b ∧ b < g 0 0) : r6_ (lw_ g L b) := by
  obtain ⟨hl, -, hn⟩ := hw.2 b hb.1 hb.2
  exact ll_rg _ _ (fun i h0 h1 => hn i h0 (by omega)) (lz_rg hw hL hb)
theorem lw_mono (hw : WF_ g) (hL : Lr_ g L) (hM : Lr_ g M) (hb : 0 ≤ b ∧ b < g 0 0) (h : ∀ b, 0 ≤ b → b < g 0 0 → Su_ (L b) (M b)) : Su_ (lw_ g L b) (lw_ g M b) := by
  obtain ⟨hl, -, hn⟩ := hw.2 b hb.1 hb.2
  exact ll_mono _ _ _ (fun i h0 h1 => hn i h0 (by omega)) (lz_rg hw hL hb) (lz_rg hw hM hb) (lz_mono hw hL hM hb h)
theorem lw_eq (hw : WF_ g) (hb : 0 ≤ b ∧ b < g 0 0) (h : ∀ b, 0 ≤ b → b < g 0 0 → L b = M b) : lw_ g L b = lw_ g M b := by
  obtain ⟨-, he, -⟩ := hw.2 b hb.1 hb.2
  unfold lw_
  congr 1
  unfold lz_
  rcases he with ⟨q0, q1, q2, q3, q4, q5⟩ | ⟨q0, q1, q2, q3, q4, q5, q6⟩ | ⟨q0, q1, q2, q3, q4⟩
  · rw [if_neg (by omega), if_neg (by omega), if_neg (by omega), if_neg (by omega), h _ q3 q4]
  · rw [if_neg (by omega), if_pos q0, if_neg (by omega), if_pos q0, h _ q3 q4, h _ q5 q6]
  · rw [if_pos q0, if_pos q0]
def Fx_ (g : V_) (L : Int → Int) : Prop := Lr_ g L ∧ ∀ b, 0 ≤ b → b < g 0 0 → lw_ g L b = L b
/-- the least fixed point -/
def LF_ (g : V_) (L : Int → Int) : Prop := Fx_ g L ∧ ∀ M, Fx_ g M → ∀ b, 0 ≤ b → b < g 0 0 → Su_ (L b) (M b)
theorem LF_u (h : LF_ g L) (h2 : LF_ g M) : ∀ b, 0 ≤ b → b < g 0 0 → L b = M b := fun b b0 b1 => by
  have r1 := h.1.1 b b0 b1
  have r2 := h2.1.1 b b0 b1
  unfold r6_ at r1 r2
  refine bt_ext (by omega) (by omega) fun q q0 q1 => ?_
  have s1 := h.2 M h2.1 b b0 b1 q q0 q1
  have s2 := h2.2 L h.1 b b0 b1 q q0 q1
  cases e : bt_ (L b) q <;> cases e2 : bt_ (M b) q
  · rfl
  · rw [e] at s2; exact absurd (s2 e2) (by decide)
  · rw [e2] at s1; exact absurd (s1 e) (by decide)
  · rfl
theorem LF_eq (hw : WF_ g) (h : LF_ g L) (e : ∀ b, 0 ≤ b → b < g 0 0 → M b = L b) : LF_ g M := by
  refine ⟨⟨fun b b0 b1 => by rw [e b b0 b1]; exact h.1.1 b b0 b1, fun b b0 b1 => ?_⟩, fun N hN b b0 b1 => by rw [e b b0 b1]; exact h.2 N hN b b0 b1⟩
  rw [lw_eq hw ⟨b0, b1⟩ e, e b b0 b1]
  exact h.1.2 b b0 b1
/-- on the way to it -/
def Lv_ (g : V_) (L : Int → Int) : Prop := Lr_ g L ∧ (∀ b, 0 ≤ b → b < g 0 0 → Su_ (L b) (lw_ g L b)) ∧ ∀ M, Fx_ g M → ∀ b, 0 ≤ b → b < g 0 0 → Su_ (L b) (M b)
def pb_ (x r : Int) : Int := if bt_ x r then 1 else 0
def pc_ (x : Int) : Int := pb_ x 0 + pb_ x 1 + pb_ x 2 + pb_ x 3 + pb_ x 4 + pb_ x 5
def tt_ (L : Int → Int) : Int := pc_ (L 0) + pc_ (L 1) + pc_ (L 2) + pc_ (L 3) + pc_ (L 4) + pc_ (L 5) + pc_ (L 6) + pc_ (L 7)
theorem pb_01 (x r : Int) : 0 ≤ pb_ x r ∧ pb_ x r ≤ 1 := by unfold pb_; split <;> decide
theorem pc_6 (x : Int) : 0 ≤ pc_ x ∧ pc_ x ≤ 6 := by
  have := pb_01 x 0; have := pb_01 x 1; have := pb_01 x 2; have := pb_01 x 3; have := pb_01 x 4; have := pb_01 x 5
  unfold pc_
  omega
theorem tt_48 (L : Int → Int) : 0 ≤ tt_ L ∧ tt_ L ≤ 48 := by
  have := pc_6 (L 0); have := pc_6 (L 1); have := pc_6 (L 2); have := pc_6 (L 3); have := pc_6 (L 4); have := pc_6 (L 5); have := pc_6 (L 6); have := pc_6 (L 7)
  unfold tt_
  omega
theorem bt_hi {x q : Int} (hx : r6_ x) (hq : 6 ≤ q) : bt_ x q = false := by
  unfold bt_ r6_ at *
  have p : 2 ^ 6 ≤ 2 ^ q.toNat := Nat.pow_le_pow_right (by decide) (by omega)
  exact Nat.testBit_lt_two_pow (by omega)
theorem pc_lt {x y : Int} (hx : r6_ x) (hy : r6_ y) (h : Su_ x y) (hn : x ≠ y) : pc_ x + 1 ≤ pc_ y := by
  have mono : ∀ r, 0 ≤ r → r < 8 → pb_ x r ≤ pb_ y r := fun r r0 r1 => by
    unfold pb_
    cases e : bt_ x r
    · have := pb_01 y r
      unfold pb_ at this
      simp only [Bool.false_eq_true, if_false]
      omega
    · rw [h r r0 r1 e]
      decide
  have m0 := mono 0 (by decide) (by decide); have m1 := mono 1 (by decide) (by decide); have m2 := mono 2 (by decide) (by decide)
  have m3 := mono 3 (by decide) (by decide); have m4 := mono 4 (by decide) (by decide); have m5 := mono 5 (by decide) (by decide)
  by_cases c : pc_ x + 1 ≤ pc_ y
  · exact c
  · exfalso
    apply hn
    unfold pc_ at c
    have eqs : pb_ x 0 = pb_ y 0 ∧ pb_ x 1 = pb_ y 1 ∧ pb_ x 2 = pb_ y 2 ∧ pb_ x 3 = pb_ y 3 ∧ pb_ x 4 = pb_ y 4 ∧ pb_ x 5 = pb_ y 5 := by omega
    have back : ∀ r, pb_ x r = pb_ y r → bt_ x r = bt_ y r := fun r e => by
      unfold pb_ at e
      cases e1 : bt_ x r <;> cases e2 : bt_ y r <;> rw [e1, e2] at e <;> first | rfl | exact absurd e (by decide)
    have hx2 := hx
    have hy2 := hy
    unfold r6_ at hx2 hy2
    refine bt_ext (by omega) (by omega) fun q q0 q1 => ?_
    rcases (by omega : q = 0 ∨ q = 1 ∨ q = 2 ∨ q = 3 ∨ q = 4 ∨ q = 5 ∨ 6 ≤ q) with rfl | rfl | rfl | rfl | rfl | rfl | c6
    · exact back _ eqs.1
    · exact back _ eqs.2.1
    · exact back _ eqs.2.2.1
    · exact back _ eqs.2.2.2.1
    · exact back _ eqs.2.2.2.2.1
    · exact back _ eqs.2.2.2.2.2
    · rw [bt_hi hx c6, bt_hi hy c6]
theorem tt_up (hb : 0 ≤ b ∧ b < 8) (x : Int) : tt_ (fun c => if c = b then x else L c) = tt_ L - pc_ (L b) + pc_ x := by
  unfold tt_
  rcases (by omega : b = 0 ∨ b = 1 ∨ b = 2 ∨ b = 3 ∨ b = 4 ∨ b = 5 ∨ b = 6 ∨ b = 7) with rfl | rfl | rfl | rfl | rfl | rfl | rfl | rfl <;> simp only [Int.reduceEq, if_true, if_false] <;> omega
/-- one block is told anew -/
theorem Lv_step (hw : WF_ g) (h : Lv_ g L) (hb : 0 ≤ b ∧ b < g 0 0) (hM : ∀ c, M c = if c = b then lw_ g L b else L c) : Lv_ g M ∧ tt_ L ≤ tt_ M ∧ (lw_ g L b ≠ L b → tt_ L + 1 ≤ tt_ M) ∧ (lw_ g L b = L b → ∀ c, M c = L c) := by
  obtain ⟨h1, h2, h3⟩ := h
  have hn := hw.1
  have hr := lw_rg hw h1 hb
  have hMr : Lr_ g M := fun c c0 c1 => by
    rw [hM]
    split
    · exact hr
    · exact h1 c c0 c1
  have hsub : ∀ c, 0 ≤ c → c < g 0 0 → Su_ (L c) (M c) := fun c c0 c1 => by
    rw [hM]
    by_cases e : c = b
    · rw [if_pos e, e]; exact h2 b hb.1 hb.2
    · rw [if_neg e]; exact fun _ _ _ q => q
  have eM : M = fun c => if c = b then lw_ g L b else L c := funext hM
  refine ⟨⟨hMr, fun c c0 c1 => ?_, fun N hN c c0 c1 => ?_⟩, ?_, fun hne => ?_, fun e c => ?_⟩
  · have m := lw_mono hw h1 hMr ⟨c0, c1⟩ hsub
    by_cases e : c = b
    · have eb : M c = lw_ g L c := by rw [hM, if_pos e, e]
      rw [eb]
      exact m
    · rw [hM, if_neg e]
      exact fun r r0 r1 q => m r r0 r1 (h2 c c0 c1 r r0 r1 q)
  · rw [hM]
    by_cases e : c = b
    · rw [if_pos e, ← hN.2 c c0 c1, e]
      exact lw_mono hw h1 hN.1 hb (h3 N hN)
    · rw [if_neg e]
      exact h3 N hN c c0 c1
  · by_cases e : lw_ g L b = L b
    · have : M = L := by rw [eM, e]; funext c; split <;> simp_all
      rw [this]
      exact Int.le_refl _
    · have q := pc_lt (h1 b hb.1 hb.2) hr (h2 b hb.1 hb.2) (fun q => e q.symm)
      rw [eM, tt_up ⟨hb.1, by omega⟩]
      omega
  · have q := pc_lt (h1 b hb.1 hb.2) hr (h2 b hb.1 hb.2) (fun q => hne q.symm)
    rw [eM, tt_up ⟨hb.1, by omega⟩]
    omega
  · rw [hM, e]
    split <;> simp_all
theorem bt_0 (r : Int) : bt_ 0 r = false := Nat.zero_testBit _
theorem Lv_0 (h : ∀ b, 0 ≤ b → b < g 0 0 → L b = 0) : Lv_ g L := by
  refine ⟨fun b b0 b1 => by rw [h b b0 b1]; exact ⟨by decide, by decide⟩, fun b b0 b1 => ?_, fun M _ b b0 b1 => ?_⟩ <;> rw [h b b0 b1] <;> intro r _ _ q <;> rw [bt_0] at q <;> exact absurd q (by decide)
theorem Lv_fix (h : Lv_ g L) (e : ∀ b, 0 ≤ b → b < g 0 0 → lw_ g L b = L b) : LF_ g L := ⟨⟨h.1, e⟩, h.2.2⟩
end LIVE
