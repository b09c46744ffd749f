/-! layer 2: a cycle of a trace, joined -/
def LQ_ (t m c r : Int) (u w : V_) : Prop := (0 ≤ r ∧ r < m) ∧ w 849 (34 * t + r) = 2 ∧ w 858 (34 * t + r) = c ∧ RC_ u 807 w ∧ u 807 4 = 0
theorem CD_ {t m c a e x : Int} {vc vr u u2 w : V_} (hY : CY_ t m c a e vc vr u w) (hD : DI_ t a x vc vr u u2) : Gk_ vc u2 ∧ Gl_ vr w := by
  obtain ⟨y1, y2, y3, y4, y5, y6⟩ := hY
  obtain ⟨d1, -, d3, -⟩ := hD
  refine ⟨fun b k h1 h2 h3 h5 h6 => ?_, y5⟩
  rw [d1 _ _ (by omega)]
  exact y4 b k h1 h2 h3 h5 (by omega)
def ST_ (t m c a : Int) (vc vr : V_) (oc or : Option (Int × V_)) (k4 : Int → V_ → Option (Int × V_)) (k57 : Int → V_ → Option (Int × V_)) (kl : Int → V_ → Option (Int × V_)) : Prop := ∃ e u w, Gk_ vc u ∧ Gl_ vr w ∧ ((oc = some (-1, u) ∧ or = some (-3, w) ∧ u 807 4 = 1 ∧ u 807 9 = -1) ∨ (oc = k4 e u ∧ or = k57 (c + 1) w ∧ FI_ t m (c + 1) e u w) ∨ ∃ r, oc = some (r, u) ∧ or = kl r w ∧ LQ_ t m c r u w)
theorem step_T {g vc vr : V_} {L : Int → Int} {t m c a : Int} (ht : 0 ≤ t ∧ t < 8) (hP : PT_ g L t m vc vr) (hc : 0 ≤ c ∧ c ≤ vr 858 (34 * t + (m - 1))) (hI : FI_ t m c a vc vr) (k4 : Int → Int → Int → Int → V_ → Option (Int × V_)) (k57 : Int → V_ → Option (Int × V_)) (x2 x3 : Int) : ST_ t m c a vc vr (fX6_goCycles_15 k4 fu_ 807 (200 + 75 * t) a c a vc) (tdb_ k57 t x2 x3 c vr) (fun e u => k4 807 (200 + 75 * t) e (c + 1) u) k57 (fun r w => tdl_ t x2 x3 c r (w 850 (34 * t + r)) w) := by
  have hm := hP.1.1.2.2
  have c300 : c < 300 := by
    have := (hP.2.2.2.2.2.2.1.1 (m - 1) (by omega) (by omega)).2.2
    omega
  obtain ⟨i1, i2, i3, i4, i5, i6, i7, -⟩ := hI
  obtain ⟨e, g1, hG⟩ := grp_T ht hP (vc' := vc) (fun _ _ _ => rfl) i5 i6 i7 k4
  rw [g1]
  unfold ST_ tdb_
  rcases pair_T ht hP i1 hG ⟨hc.1, c300⟩ i2 i3 i4 k4 with ⟨u, w, p1, p2, p3, p4, p5, p6⟩ | ⟨u, w, u2, p1, hY, p2⟩
  · refine ⟨e, u, w, fun b k h1 h2 h3 h5 h6 => p3 b k h3 h5 (by omega), fun b k h1 h2 h3 h5 => p6 b k h3 h5, Or.inl ⟨p1, ?_, p4, p5⟩⟩
    rw [p2, bd_s, if_pos rfl]
  · rw [p1, bd_s, if_neg n10_]
    have y4 : u 807 4 = 0 := (hY.2.2.2.1 807 4 (by omega) (by omega) (by omega) (by omega) (by omega)).trans i2
    have eW : ∀ a k, 843 ≤ a → a ≤ 863 → w a k = vr a k := fun a k h1 h2 => hY.2.2.2.2.1 a k (by omega) (by omega) (by omega) (by omega)
    obtain ⟨r, s1, s2⟩ := way_T ht hP hG hY
    dsimp only
    rw [s1, bd_s]
    rcases s2 with ⟨rfl, s2⟩ | ⟨q, q0, q1, q2, r0, r2, r3, h, h1, h2⟩
    · rw [if_neg (by omega), lt_d, wr_id (by omega)]
      rcases p2 with ⟨hD, p2⟩ | ⟨q, q0, q1, ⟨q2, -⟩, -⟩
      · have h4 : u2 807 4 = 0 := by
          rcases hD.2.1 with ⟨z, -⟩ | ⟨-, -, q, q0, q1, q2, -⟩
          · exact z.trans y4
          · exact absurd q2 (s2 q q0 q1)
        rcases p2 with ⟨z, -⟩ | ⟨-, p2⟩
        · omega
        · obtain ⟨n1, n2, n3⟩ := next_T ht hP hG hY hD h4
          exact ⟨e, u2, w, n2, n3, Or.inr (Or.inl ⟨p2, rfl, n1⟩)⟩
      · exact absurd q2 (s2 q q0 q1)
    · have hq := (hP.2.2.2.2.2.2.2.1.1 q (by have := hG.1.1; omega) (by have := hG.1.2.2; omega)).2
      have only : ∀ q', a ≤ q' → q' < e → vr 849 (34 * t + vc (203 + 75 * t) q') = 2 → vc (203 + 75 * t) q' = r := fun q' q0' q1' z => by
        have o := (hP.2.2.2.2.2.2.2.1.1 q' (by have := hG.1.1; omega) (by have := hG.1.2.2; omega)).1
        have c1 := hG.2.2.1 q' q0' q1'
        have c2 := hG.2.2.1 q q0 q1
        rw [q2] at c2
        rcases (by omega : vc (203 + 75 * t) q' < r ∨ vc (203 + 75 * t) q' = r ∨ r < vc (203 + 75 * t) q') with y | y | y
        · have := spl_lt hP o.1 y r0.2 z (Or.inl r2)
          omega
        · exact y
        · have := spl_lt hP r0.1 y o.2 r2 (Or.inl z)
          omega
      have c2 := hG.2.2.1 q q0 q1
      rw [q2] at c2
      have el : wr_ (wr_ (34 * t) + r) = 34 * t + r := ix_ ht ⟨r0.1, by omega⟩
      try dsimp only
      rw [if_pos r0.1, el, ck_t (by omega), lt_d, ck_t (by omega), ck_t (by omega)]
      simp only [Int.reduceAdd]
      have e857 : w 857 (34 * t + r) = vr 857 (34 * t + r) := eW _ _ (by omega) (by omega)
      by_cases lv : w 868 r = vr 857 (34 * t + r)
      · rw [if_pos (lv.trans e857.symm)]
        rcases p2 with ⟨hD, -⟩ | ⟨q', q0', q1', ⟨l1, l2⟩, hD, p2⟩
        · exact absurd ⟨by rw [q2]; exact r2, by rw [q2, ← r3]; exact lv⟩ (hD.2.2.2 q q0 q1)
        · have e' := only q' q0' q1' l1
          have h4 : u2 807 4 = 0 := by
            rcases hD.2.1 with ⟨z, -⟩ | ⟨-, -, q'', q0'', q1'', q2'', -⟩
            · exact z.trans y4
            · have e'' := only q'' q0'' (by omega) q2''
              have o1 := (hP.2.2.2.2.2.2.2.1.1 q' (by have := hG.1.1; omega) (by have := hG.1.2.2; omega)).2 q'' (by have := hG.1.1; omega) q1''
              exact absurd (e''.trans e'.symm) o1.2
          obtain ⟨n2, n3⟩ := CD_ hY hD
          refine ⟨e, u2, w, n2, n3, Or.inr (Or.inr ⟨r, by rw [p2, e'], rfl, r0, (eW _ _ (by omega) (by omega)).trans r2, (eW _ _ (by omega) (by omega)).trans c2, RC_fr hY.1 (fun k => hD.1 _ _ (by omega)) (fun k => hD.1 _ _ (by omega)) (fun _ => rfl) (fun _ => rfl), h4⟩)⟩
      · rw [if_neg (fun z => lv (z.trans e857)), h1, bd_s]
        dsimp only
        rcases p2 with ⟨hD, p2⟩ | ⟨q', q0', q1', ⟨l1, l2⟩, hD, p2⟩
        · rcases h2 with ⟨z, b⟩ | ⟨z, b⟩
          · rw [if_neg (show ¬ h = 0 by omega)]
            have hb : HB_q t vc vr u q := ⟨by rw [q2]; exact r2, by rw [q2, ← r3]; exact lv, by rw [q2]; exact b⟩
            rcases hD.2.1 with ⟨-, -, y⟩ | ⟨y1, y2, -⟩
            · exact absurd hb (y q q0 q1)
            · rcases p2 with ⟨-, p2⟩ | ⟨y, -⟩
              · obtain ⟨n2, n3⟩ := CD_ hY hD
                exact ⟨e, u2, w, n2, n3, Or.inl ⟨p2, rfl, y1, y2⟩⟩
              · exact absurd y1 y
          · rw [if_pos z, lt_d, wr_id (by omega)]
            have h4 : u2 807 4 = 0 := by
              rcases hD.2.1 with ⟨z, -⟩ | ⟨-, -, q'', q0'', q1'', q2'', -, q3''⟩
              · exact z.trans y4
              · have e'' := only q'' q0'' (by omega) q2''
                rw [e''] at q3''
                exact absurd q3'' b
            rcases p2 with ⟨z, -⟩ | ⟨-, p2⟩
            · omega
            · obtain ⟨n1, n2, n3⟩ := next_T ht hP hG hY hD h4
              exact ⟨e, u2, w, n2, n3, Or.inr (Or.inl ⟨p2, rfl, n1⟩)⟩
        · have e' := only q' q0' q1' l1
          have l3 : u 812 q' = vr 857 (34 * t + r) := by rw [← e']; exact l2
          have o : q' = q := Classical.byContradiction fun nq => by
            have oq := (hP.2.2.2.2.2.2.2.1.1 q' (by have := hG.1.1; omega) (by have := hG.1.2.2; omega)).2
            rcases (by omega : q' < q ∨ q < q') with y | y
            · exact (hq q' (by have := hG.1.1; omega) y).2 (e'.trans q2.symm)
            · exact (oq q (by have := hG.1.1; omega) y).2 (q2.trans e'.symm)
          rw [o] at l3
          exact absurd (r3.trans l3) lv
