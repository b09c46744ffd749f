/-! layer 2: all cycles of a trace, in both -/
theorem Gk_tr {a b c : V_} (h : Gk_ a b) (h' : Gk_ b c) : Gk_ a c := fun x k h1 h2 h3 h4 h5 => (h' x k h1 h2 h3 h4 h5).trans (h x k h1 h2 h3 h4 h5)
theorem Gl_tr {a b c : V_} (h : Gl_ a b) (h' : Gl_ b c) : Gl_ a c := fun x k h1 h2 h3 h4 => (h' x k h1 h2 h3 h4).trans (h x k h1 h2 h3 h4)
theorem bt_zz (k : Int) : ¬ bt_ 0 k = true := by
  rw [bt_0]
  decide
def CQ_o (t m x2 x3 : Int) (vc vr : V_) (out : Option (Int × V_) × Option (Int × V_)) : Prop := ∃ u w, Gk_ vc u ∧ Gl_ vr w ∧ ((out.1 = some (-1, u) ∧ out.2 = some (-3, w) ∧ u 807 4 = 1 ∧ u 807 9 = -1) ∨ ∃ r, out.1 = some (r, u) ∧ out.2 = tdl_ t x2 x3 (w 858 (34 * t + r)) r (w 850 (34 * t + r)) w ∧ LQ_ t m (w 858 (34 * t + r)) r u w)
theorem cycles_T {g vc vr : V_} {L : Int → Int} {t m : Int} (ht : 0 ≤ t ∧ t < 8) (hP : PT_ g L t m vc vr) (hR : RC_ vc 807 vr) (h4 : vc 807 4 = 0) (h11 : vc 807 11 = 0) (h0 : ∀ j, 0 ≤ j → j < m → vr 867 j = 0) (x2 x3 : Int) : (∃ u w, Gk_ vc u ∧ Gl_ vr w ∧ fX6_goCycles 807 (200 + 75 * t) vc = some (-1, u) ∧ fX12_traceDone_57 fu_ 814 t x2 x3 0 vr = tde_ t x3 (w 814 45) (vr 858 (34 * t + (m - 1)) + 1, w) ∧ u 807 4 = 0 ∧ RC_ u 807 w ∧ EQ_ t m u w) ∨ CQ_o t m x2 x3 vc vr (fX6_goCycles 807 (200 + 75 * t) vc, fX12_traceDone_57 fu_ 814 t x2 x3 0 vr) := by
  have hm := hP.1.1.2.2
  have hb := (hP.2.2.2.2.2.2.1.1 (m - 1) (by omega) (by omega)).2
  have len : ∀ w, Gl_ vr w → fX12_lengthOf 814 t w = some (vr 858 (34 * t + (m - 1)) + 1, w) := fun w hw => by
    have e : ∀ a k, 843 ≤ a → a ≤ 863 → w a k = vr a k := fun a k h1 h2 => hw a k (by omega) (by omega) (by omega) (by omega)
    have := length_e (v := w) (t := t) (m := m) ht hm ((e _ _ (by omega) (by omega)).trans hP.1.1.2.1) (by rw [e _ _ (by omega) (by omega)]; exact hb)
    rw [this, e _ _ (by omega) (by omega)]
  have pt : ∀ u w, Gk_ vc u → Gl_ vr w → PT_ g L t m u w := fun u w h1 h2 => PT_g ht hP (fun a k h => h1 a k (by omega) (by omega) (by omega) (by omega) (by omega)) (fun a k x y => h2 a k (by omega) (by omega) (by omega) (by omega))
  have cnt : ∀ u, Gk_ vc u → u (200 + 75 * t) 9 = vr 858 (34 * t + (m - 1)) + 1 := fun u h => (h _ _ (by omega) (by omega) (by omega) (by omega) (by omega)).trans hP.2.2.2.2.2.2.1.2.2
  have hI0 : FI_ t m 0 0 vc vr := by
    refine ⟨hR, h4, ⟨by rw [h11]; decide, fun k k0 => ?_⟩, fun j j0 j1 _ => h0 j j0 j1, ⟨by omega, by omega⟩, fun q q0 q1 => absurd q0 (by omega), fun q q0 q1 => ?_, fun hc => absurd hc (by omega)⟩
    · rw [h11]
      exact ⟨fun b => absurd b (bt_zz k), fun ⟨j, j0, j1, j2, _⟩ => absurd (h0 j j0 j1) j2⟩
    · have o := (hP.2.2.2.2.2.2.2.1.1 q q0 q1).1
      exact ((hP.2.2.2.2.2.2.1.1 _ o.1 o.2).2).1
  unfold fX6_goCycles
  have z := lp_x (σ := Int × V_ × V_) (α := Option (Int × V_) × Option (Int × V_)) (F := fun n i s => (fX6_goCycles_4 n 807 (200 + 75 * t) s.1 i s.2.1, fX12_traceDone_57 n 814 t x2 x3 i s.2.2)) (K := fun s => (some (-1, s.2.1), tde_ t x3 (s.2.2 814 45) (vr 858 (34 * t + (m - 1)) + 1, s.2.2))) (e := vr 858 (34 * t + (m - 1)) + 1) (I := fun i s => 0 ≤ i ∧ Gk_ vc s.2.1 ∧ Gl_ vr s.2.2 ∧ FI_ t m i s.1 s.2.1 s.2.2) (Q := CQ_o t m x2 x3 vc vr) (fun n i s hI hi => by
    obtain ⟨a, u, w⟩ := s
    obtain ⟨i0, f1, f2, f3⟩ := hI
    dsimp only at f1 f2 f3 ⊢
    have e858 : w 858 (34 * t + (m - 1)) = vr 858 (34 * t + (m - 1)) := f2 _ _ (by omega) (by omega) (by omega) (by omega)
    rw [fX6_goCycles_4, if_neg (by rw [cnt u f1]; omega), td57_e, len w f2, bd_s]
    dsimp only
    rw [if_neg (by omega)]
    obtain ⟨e, u', w', g1, g2, z⟩ := step_T ht (pt u w f1 f2) (c := i) (a := a) ⟨i0, by omega⟩ f3 (fX6_goCycles_4 n) (fun y w => fX12_traceDone_57 n 814 t x2 x3 y w) x2 x3
    rcases z with ⟨z1, z2, z3, z4⟩ | ⟨z1, z2, z3⟩ | ⟨r, z1, z2, z3⟩
    · exact Or.inr ⟨u', w', Gk_tr f1 g1, Gl_tr f2 g2, Or.inl ⟨z1, z2, z3, z4⟩⟩
    · exact Or.inl ⟨(e, u', w'), by rw [z1, z2], by omega, Gk_tr f1 g1, Gl_tr f2 g2, z3⟩
    · have er : w' 858 (34 * t + r) = i := z3.2.2.1
      exact Or.inr ⟨u', w', Gk_tr f1 g1, Gl_tr f2 g2, Or.inr ⟨r, z1, by rw [er]; exact z2, by rw [er]; exact z3⟩⟩) (fun n s hI => by
    obtain ⟨a, u, w⟩ := s
    obtain ⟨i0, f1, f2, f3⟩ := hI
    dsimp only at f1 f2 f3 ⊢
    rw [fX6_goCycles_4, if_pos (by rw [cnt u f1]; omega), td57_e, len w f2, bd_s]
    dsimp only
    rw [if_pos (by omega), len w f2, bd_s]) (vr 858 (34 * t + (m - 1)) + 1).toNat fu_ 0 (0, vc, vr) ⟨by omega, fun _ _ _ _ _ _ _ => rfl, fun _ _ _ _ _ _ => rfl, hI0⟩ (by omega) (by unfold fu_; omega)
  rcases z with ⟨⟨a, u, w⟩, e, ⟨-, f1, f2, f3⟩⟩ | q
  · dsimp only at e f1 f2 f3
    have e1 := congrArg Prod.fst e
    have e2 := congrArg Prod.snd e
    dsimp only at e1 e2
    exact Or.inl ⟨u, w, f1, f2, e1, e2, f3.2.1, f3.1, f3.2.2.2.2.2.2.2 (by rw [f2 858 _ (by omega) (by omega) (by omega) (by omega)])⟩
  · exact Or.inr q
