/-! layer 2: the items of one cycle -/
section GRP
variable {g vc vr : V_} {L : Int → Int} {t m : Int}
theorem one_set (h : PT_ g L t m vc vr) {i j : Int} (i0 : 0 ≤ i) (ij : i < j) (j1 : j < m) (hi : 0 ≤ vr 854 (34 * t + i)) (e : vr 854 (34 * t + i) = vr 854 (34 * t + j)) : vr 858 (34 * t + i) < vr 858 (34 * t + j) := by
  have x := h.2.2.2.1 i j i0 ij j1
  have y := x.1 ((0 ≤ vr 854 (34 * t + i) ∧ vr 854 (34 * t + i) = vr 854 (34 * t + j)), (if 1 ≤ lat_ g vr (34 * t + i) - lat_ g vr (34 * t + j) + 1 then lat_ g vr (34 * t + i) - lat_ g vr (34 * t + j) + 1 else 1)) (by unfold nL_; exact List.mem_cons_of_mem _ (List.mem_cons_of_mem _ (List.mem_cons_of_mem _ (List.mem_cons_of_mem _ (List.mem_cons_of_mem _ List.mem_cons_self))))) ⟨hi, e⟩
  have y1 : 1 ≤ vc (204 + 75 * t) (34 * i + j) := by
    dsimp only at y
    split at y <;> omega
  have := h.2.2.2.2.2.2.1.2.1 i j i0 ij j1 (by omega)
  omega
theorem one_store (h : PT_ g L t m vc vr) {i j : Int} (i0 : 0 ≤ i) (ij : i < j) (j1 : j < m) (hi : sto_ vr (34 * t + i)) (hj : sto_ vr (34 * t + j)) : vr 858 (34 * t + i) < vr 858 (34 * t + j) := by
  have x := h.2.2.2.1 i j i0 ij j1
  have y : 1 ≤ vc (204 + 75 * t) (34 * i + j) := x.1 ((sto_ vr (34 * t + i) ∧ sto_ vr (34 * t + j)), 1) (by unfold nL_; exact List.mem_cons_of_mem _ (List.mem_cons_of_mem _ List.mem_cons_self)) ⟨hi, hj⟩
  have := h.2.2.2.2.2.2.1.2.1 i j i0 ij j1 (by omega)
  omega
/-- the end goes in the last cycle, behind every store and split -/
theorem end_last (h : PT_ g L t m vc vr) {i : Int} (i0 : 0 ≤ i) (i1 : i < m - 1) : vr 858 (34 * t + i) ≤ vr 858 (34 * t + (m - 1)) := by
  have m1 := h.1.1.2.2
  have x := h.2.2.2.1 i (m - 1) i0 i1 (by omega)
  have k3 : vr 849 (34 * t + (m - 1)) = 3 := (h.2.1 (m - 1) (by omega) (by omega)).2.2.1.2 rfl
  have y : 0 ≤ vc (204 + 75 * t) (34 * i + (m - 1)) := x.1 ((vr 849 (34 * t + (m - 1)) = 3), 0) (by unfold nL_; exact List.mem_cons_self) k3
  have := h.2.2.2.2.2.2.1.2.1 i (m - 1) i0 i1 (by omega) y
  omega
/-- the places of the order from a to e are those of cycle c -/
def GP_ (t m c a e : Int) (vc vr : V_) : Prop := (0 ≤ a ∧ a ≤ e ∧ e ≤ m) ∧ (∀ q, 0 ≤ q → q < a → vr 858 (34 * t + vc (203 + 75 * t) q) < c) ∧ (∀ q, a ≤ q → q < e → vr 858 (34 * t + vc (203 + 75 * t) q) = c) ∧ ∀ q, e ≤ q → q < m → c < vr 858 (34 * t + vc (203 + 75 * t) q)
theorem GP_mem (h : PT_ g L t m vc vr) {c a e : Int} (hG : GP_ t m c a e vc vr) {j : Int} (j0 : 0 ≤ j) (j1 : j < m) (hc : vr 858 (34 * t + j) = c) : ∃ q, a ≤ q ∧ q < e ∧ vc (203 + 75 * t) q = j := by
  obtain ⟨q, q0, q1, q2⟩ := h.2.2.2.2.2.2.2.1.2 j j0 j1
  refine ⟨q, ?_, ?_, q2⟩
  · refine Classical.byContradiction fun n => ?_
    have := hG.2.1 q q0 (by omega)
    rw [q2] at this
    omega
  · refine Classical.byContradiction fun n => ?_
    have := hG.2.2.2 q (by omega) q1
    rw [q2] at this
    omega
theorem grp_T {vc' : V_} (ht : 0 ≤ t ∧ t < 8) (h : PT_ g L t m vc vr) (hu : ∀ a k, a < 800 → vc' a k = vc a k) {c a : Int} (ha : 0 ≤ a ∧ a ≤ m) (h1 : ∀ q, 0 ≤ q → q < a → vr 858 (34 * t + vc (203 + 75 * t) q) < c) (h2 : ∀ q, a ≤ q → q < m → c ≤ vr 858 (34 * t + vc (203 + 75 * t) q)) (k4 : Int → Int → Int → Int → V_ → Option (Int × V_)) : ∃ e, fX6_goCycles_15 k4 fu_ 807 (200 + 75 * t) a c a vc' = fX6_goCycles_49 k4 807 (200 + 75 * t) a c e vc' ∧ GP_ t m c a e vc vr := by
  have hm := h.1.1
  have ord := h.2.2.2.2.2.2.2.1.1
  have cyc := h.2.2.2.2.2.2.1.1
  have e3 : vc' (200 + 75 * t) 3 = m := (hu _ _ (by omega)).trans hm.1
  rcases lp_x (σ := Unit) (F := fun n x _ => fX6_goCycles_15 k4 n 807 (200 + 75 * t) a c x vc') (K := fun _ => fX6_goCycles_49 k4 807 (200 + 75 * t) a c m vc') (e := m) (I := fun x _ => a ≤ x ∧ ∀ q, a ≤ q → q < x → vr 858 (34 * t + vc (203 + 75 * t) q) = c) (Q := fun out => ∃ e, out = fX6_goCycles_49 k4 807 (200 + 75 * t) a c e vc' ∧ GP_ t m c a e vc vr) (fun n x _ hI hx => by
    obtain ⟨x0, hI⟩ := hI
    obtain ⟨⟨o1, o2⟩, o3⟩ := ord x (by omega) hx
    have e5 : vc' (200 + 75 * t + 3) x = vc (203 + 75 * t) x := by rw [hu _ _ (by omega), show 200 + 75 * t + 3 = 203 + 75 * t by omega]
    have e7 : vc' (200 + 75 * t + 2 + (5 + 2 * vc' (200 + 75 * t + 3) x)) 7 = vr 858 (34 * t + vc (203 + 75 * t) x) := by
      rw [e5, show 200 + 75 * t + 2 + (5 + 2 * vc (203 + 75 * t) x) = 207 + 75 * t + 2 * vc (203 + 75 * t) x by omega, hu _ _ (by omega)]
      exact (cyc _ o1 o2).1
    rw [fX6_goCycles_15, if_neg (show ¬ vc' (200 + 75 * t) 3 ≤ x by omega), ck_t (by omega), ck_t (by omega)]
    by_cases q : vr 858 (34 * t + vc (203 + 75 * t) x) = c
    · rw [if_pos (e7.trans q), lt_d, wr_id (by omega)]
      refine Or.inl ⟨(), rfl, by omega, fun y y0 y1 => ?_⟩
      rcases (by omega : y < x ∨ y = x) with z | z
      · exact hI y y0 z
      · rw [z]; exact q
    · rw [if_neg (fun z => q (e7.symm.trans z))]
      refine Or.inr ⟨x, rfl, ⟨ha.1, x0, by omega⟩, h1, hI, fun y y0 y1 => ?_⟩
      have z := h2 x x0 hx
      rcases (by omega : y = x ∨ x < y) with w | w
      · rw [w]; omega
      · have := ((ord y (by omega) y1).2 x (by omega) w).1
        omega) (fun n _ hI => by
    rw [fX6_goCycles_15, if_pos (show vc' (200 + 75 * t) 3 ≤ m by omega)]) (m - a).toNat fu_ a () ⟨Int.le_refl _, fun q q0 q1 => absurd q0 (by omega)⟩ (by omega) (by unfold fu_; omega) with ⟨_, e, -, hI⟩ | ⟨e, x1, x2⟩
  · exact ⟨m, e, ⟨ha.1, ha.2, Int.le_refl _⟩, h1, hI, fun q q0 q1 => absurd q0 (by omega)⟩
  · exact ⟨e, x1, x2⟩
end GRP
