/-! layer 2: the class decides a cycle -/
/-- a split that stays, with a guess held back for it -/
def HB_q (t : Int) (vc vr u0 : V_) (q : Int) : Prop := vr 849 (34 * t + vc (203 + 75 * t) q) = 2 ∧ u0 812 q ≠ vr 857 (34 * t + vc (203 + 75 * t) q) ∧ bt_ (u0 807 11) (vc (203 + 75 * t) q) = true
/-- a split that leaves -/
def LV_q (t : Int) (vc vr u0 : V_) (q : Int) : Prop := vr 849 (34 * t + vc (203 + 75 * t) q) = 2 ∧ u0 812 q = vr 857 (34 * t + vc (203 + 75 * t) q)
def DI_ (t a x : Int) (vc vr u0 u : V_) : Prop := (∀ b k, ¬ (b = 807 ∧ (k = 4 ∨ k = 9 ∨ k = 10)) → u b k = u0 b k) ∧ ((u 807 4 = u0 807 4 ∧ u 807 9 = u0 807 9 ∧ ∀ q, a ≤ q → q < x → ¬ HB_q t vc vr u0 q) ∨ (u 807 4 = 1 ∧ u 807 9 = -1 ∧ ∃ q, a ≤ q ∧ q < x ∧ HB_q t vc vr u0 q)) ∧ ((u 807 10 = u0 807 10 ∧ ∀ q, a ≤ q → q < x → vr 849 (34 * t + vc (203 + 75 * t) q) ≠ 3) ∨ ∃ q, a ≤ q ∧ q < x ∧ vr 849 (34 * t + vc (203 + 75 * t) q) = 3 ∧ u 807 10 = u0 812 q) ∧ ∀ q, a ≤ q → q < x → ¬ LV_q t vc vr u0 q
theorem decide_T {g vc vr u0 : V_} {L : Int → Int} {t m c a e : Int} (ht : 0 ≤ t ∧ t < 8) (hP : PT_ g L t m vc vr) (hG : GP_ t m c a e vc vr) (hv : ∀ b k, b < 800 → u0 b k = vc b k) (h11 : 0 ≤ u0 807 11 ∧ u0 807 11 < 9223372036854775808) : (∃ u, fX6_decide 807 (200 + 75 * t) a e u0 = some (-1, u) ∧ DI_ t a e vc vr u0 u) ∨ ∃ u q, fX6_decide 807 (200 + 75 * t) a e u0 = some (vc (203 + 75 * t) q, u) ∧ a ≤ q ∧ q < e ∧ LV_q t vc vr u0 q ∧ DI_ t a q vc vr u0 u := by
  have hm := hP.1.1.2.2
  obtain ⟨⟨a0, ae, em⟩, g1, g2, g3⟩ := hG
  unfold fX6_decide
  rcases lp_x (σ := V_) (F := fun n q u => fX6_decide_3 n 807 (200 + 75 * t) e q u) (K := fun u => some (-1, u)) (e := e) (I := fun x u => a ≤ x ∧ DI_ t a x vc vr u0 u) (Q := fun out => ∃ u q, out = some (vc (203 + 75 * t) q, u) ∧ a ≤ q ∧ q < e ∧ LV_q t vc vr u0 q ∧ DI_ t a q vc vr u0 u) (fun n x u h hx => by
    obtain ⟨x0, hI⟩ := h
    have hI' := hI
    obtain ⟨F, hA, hB, hC⟩ := hI'
    obtain ⟨⟨o1, o2⟩, -⟩ := hP.2.2.2.2.2.2.2.1.1 x (by omega) (by omega)
    have E : ∀ b k, b < 800 → u b k = vc b k := fun b k hb => (F b k (by omega)).trans (hv b k hb)
    have hE := ((PT_g (wr := vr) ht hP E (fun _ _ _ _ => rfl)).2.1 _ o1 o2).1
    have e5 : u (200 + 75 * t + 3) x = vc (203 + 75 * t) x := by rw [E _ _ (by omega), show 200 + 75 * t + 3 = 203 + 75 * t by omega]
    have e12 : u 812 x = u0 812 x := F _ _ (by omega)
    have e11 : u 807 11 = u0 807 11 := F _ _ (by decide)
    have ey : 200 + 75 * t + 2 + (5 + 2 * u (200 + 75 * t + 3) x) = 207 + 75 * t + 2 * vc (203 + 75 * t) x := by omega
    have k1 := hE.1
    have spl : ∀ {P : Int → Prop}, (∀ q, a ≤ q → q < x → P q) → P x → ∀ q, a ≤ q → q < x + 1 → P q := fun {P} h h2 q q0 q1 => by
      rcases (by omega : q < x ∨ q = x) with y | y
      · exact h q q0 y
      · rw [y]; exact h2
    rw [fX6_decide_3, if_neg (show ¬ e ≤ x by omega), ck_t (by omega), ck_t (by omega), lt_d, ey]
    unfold fX1_isSplit
    simp only [Int.reduceAdd]
    by_cases q : vr 849 (34 * t + vc (203 + 75 * t) x) = 2
    · have o := hE.2.2.2.2.2.2.2.2
      have e4 : u (207 + 75 * t + 2 * vc (203 + 75 * t) x) 4 = vr 857 (34 * t + vc (203 + 75 * t) x) := by
        rcases o with ⟨o, -⟩ | ⟨o, -⟩ | ⟨-, -, -, -, -, o, -⟩ | ⟨o, -⟩
        · omega
        · omega
        · exact o
        · omega
      rw [if_pos (k1.trans q), bd_s, if_neg n10_, ck_t (by omega)]
      try dsimp only
      by_cases w : u0 812 x = vr 857 (34 * t + vc (203 + 75 * t) x)
      · rw [if_pos (show u 812 x = u (207 + 75 * t + 2 * vc (203 + 75 * t) x) 4 by rw [e12, e4]; exact w), ck_t (by omega), e5]
        exact Or.inr ⟨u, x, rfl, x0, hx, ⟨q, w⟩, hI⟩
      · have n4 : ¬ u 812 x = u (207 + 75 * t + 2 * vc (203 + 75 * t) x) 4 := by rw [e12, e4]; exact w
        have x34 : 0 ≤ x ∧ x < 34 := by omega
        rw [if_neg n4, ck_t x34]
        have lb := lbit_e (x := u 807 11) (r := vc (203 + 75 * t) x) (by rw [e11]; exact h11) ⟨o1, by omega⟩
        rw [e11] at lb
        by_cases b : bt_ (u0 807 11) (vc (203 + 75 * t) x) = true
        · rw [if_pos b] at lb
          rw [if_pos (show lc_ (lA_ (lR_ (u 807 11) (u (200 + 75 * t + 3) x)) 1) 1 = 0 by rw [e5, e11]; exact lb)]
          unfold fX6_fault
          rw [lt_d, lt_d, bd_s, lt_d, wr_id (by omega)]
          try dsimp only
          refine Or.inl ⟨_, rfl, by omega, fun b' k h1 => (up_n (by omega)).trans ((up_n (by omega)).trans (F b' k h1)), Or.inr ⟨by rw [up_n (by omega)]; exact up_s ⟨rfl, rfl⟩, up_s ⟨rfl, rfl⟩, x, x0, by omega, q, w, b⟩, ?_, spl hC (fun z => w z.2)⟩
          rcases hB with ⟨h1, h2⟩ | ⟨q', h1, h2, h3, h4⟩
          · exact Or.inl ⟨(up_n (by decide)).trans ((up_n (by decide)).trans h1), spl h2 (by omega)⟩
          · exact Or.inr ⟨q', h1, by omega, h3, (up_n (by decide)).trans ((up_n (by decide)).trans h4)⟩
        · rw [if_neg b] at lb
          rw [if_neg (show ¬ lc_ (lA_ (lR_ (u 807 11) (u (200 + 75 * t + 3) x)) 1) 1 = 0 by rw [e5, e11, lb]; omega), lt_d, wr_id (by omega)]
          refine Or.inl ⟨u, rfl, by omega, F, ?_, ?_, spl hC (fun z => w z.2)⟩
          · rcases hA with ⟨h1, h2, h3⟩ | ⟨h1, h2, q', h3, h4, h5⟩
            · exact Or.inl ⟨h1, h2, spl h3 (fun z => b z.2.2)⟩
            · exact Or.inr ⟨h1, h2, q', h3, by omega, h5⟩
          · rcases hB with ⟨h1, h2⟩ | ⟨q', h1, h2, h3, h4⟩
            · exact Or.inl ⟨h1, spl h2 (by omega)⟩
            · exact Or.inr ⟨q', h1, by omega, h3, h4⟩
    · rw [if_neg (fun z => q (k1.symm.trans z)), bd_s, if_pos (show (0 : Int) = 0 from rfl)]
      try dsimp only
      have hA' : (∀ w : V_, w 807 4 = u 807 4 → w 807 9 = u 807 9 → ((w 807 4 = u0 807 4 ∧ w 807 9 = u0 807 9 ∧ ∀ q, a ≤ q → q < x + 1 → ¬ HB_q t vc vr u0 q) ∨ (w 807 4 = 1 ∧ w 807 9 = -1 ∧ ∃ q, a ≤ q ∧ q < x + 1 ∧ HB_q t vc vr u0 q))) := fun w w1 w2 => by
        rcases hA with ⟨h1, h2, h3⟩ | ⟨h1, h2, q', h3, h4, h5⟩
        · exact Or.inl ⟨w1.trans h1, w2.trans h2, spl h3 (fun z => q z.1)⟩
        · exact Or.inr ⟨w1.trans h1, w2.trans h2, q', h3, by omega, h5⟩
      by_cases q3 : vr 849 (34 * t + vc (203 + 75 * t) x) = 3
      · rw [if_pos (k1.trans q3), ck_t (by omega), lt_d, lt_d, wr_id (by omega)]
        refine Or.inl ⟨_, rfl, by omega, fun b' k h1 => (up_n (by omega)).trans (F b' k h1), hA' _ (up_n (by decide)) (up_n (by decide)), Or.inr ⟨x, x0, by omega, q3, (up_s ⟨rfl, rfl⟩).trans e12⟩, spl hC (fun z => q z.1)⟩
      · rw [if_neg (fun z => q3 (k1.symm.trans z)), lt_d, wr_id (by omega)]
        refine Or.inl ⟨u, rfl, by omega, F, hA' _ rfl rfl, ?_, spl hC (fun z => q z.1)⟩
        rcases hB with ⟨h1, h2⟩ | ⟨q', h1, h2, h3, h4⟩
        · exact Or.inl ⟨h1, spl h2 q3⟩
        · exact Or.inr ⟨q', h1, by omega, h3, h4⟩) (fun n u _ => by
    rw [fX6_decide_3, if_pos (Int.le_refl _)]) (e - a).toNat fu_ a u0 ⟨Int.le_refl _, fun _ _ _ => rfl, Or.inl ⟨rfl, rfl, fun q q0 q1 => absurd q0 (by omega)⟩, Or.inl ⟨rfl, fun q q0 q1 => absurd q0 (by omega)⟩, fun q q0 q1 => absurd q0 (by omega)⟩ (by omega) (by unfold fu_; omega) with ⟨u, e1, -, hI⟩ | ⟨u, q, e1, h1, h2, h3, h4⟩
  · exact Or.inl ⟨u, e1, hI⟩
  · exact Or.inr ⟨u, q, e1, h1, h2, h3, h4⟩
