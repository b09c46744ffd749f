/-! layer 2: undo, hold, restore -/
def RK_ (vc vr : V_) : Prop := ∀ x, 0 ≤ x → x < 3 → (vc 188 x = 0 ∨ vc 188 x = 1) ∧ vr 871 x = vc 188 x ∧ (vc 188 x = 1 → RW_ vc (185 + x) vr 872 (47 * x))
def RS_ (vc vr : V_) : Prop := RW_ vc 141 vr 837 0 ∧ RH_ vc vr ∧ RK_ vc vr
theorem RW_eq {vc wc vr wr : V_} {a b off : Int} (h : RW_ vc a vr b off) (e1 : ∀ k, 0 ≤ k → k < 47 → wc a k = vc a k) (e2 : ∀ k, off ≤ k → k < off + 47 → wr b k = vr b k) : RW_ wc a wr b off := by
  refine ⟨RO_eq h.1 e1, fun k k0 k1 => ?_⟩
  have := pm_b ⟨k0, k1⟩
  rw [e1 k k0 k1, e2 _ (by omega) (by omega)]
  exact h.2 k k0 k1
theorem RH_eq {vc wc vr wr : V_} (h : RH_ vc vr) (e1 : ∀ b k, (144 ≤ b ∧ b ≤ 183) ∨ b = 142 → wc b k = vc b k) (e2 : ∀ k, wr 869 k = vr 869 k) (e3 : wr 814 77 = vr 814 77) : RH_ wc wr := by
  obtain ⟨h1, h2, h3, h4⟩ := h
  unfold RH_
  rw [e1 142 4 (by decide), e1 142 3 (by decide), e3]
  exact ⟨h1, h2, h3, fun m m0 m1 => RW_eq (h4 m m0 m1) (fun k _ _ => e1 _ _ (by omega)) (fun k _ _ => e2 _)⟩
theorem RK_eq {vc wc vr wr : V_} (h : RK_ vc vr) (e1 : ∀ b k, 185 ≤ b ∧ b ≤ 188 → wc b k = vc b k) (e2 : ∀ b k, b = 871 ∨ b = 872 → wr b k = vr b k) : RK_ wc wr := by
  intro x x0 x1
  obtain ⟨h1, h2, h3⟩ := h x x0 x1
  rw [e1 188 x (by decide), e2 871 x (by decide)]
  exact ⟨h1, h2, fun q => RW_eq (h3 q) (fun k _ _ => e1 _ _ (by omega)) (fun k _ _ => e2 _ _ (by decide))⟩
theorem undo21_e (v : V_) (h : Int) (h0 : v 814 77 = h) (h1 : 0 ≤ h ∧ h < 40) : fX12_undo_21 fu_ 814 0 v = some (1, up_ (cp_ v 869 (47 * h) 837 0 47) 814 69 0) := by
  refine (lp_cp (F := fun n i v => fX12_undo_21 n 814 i v) (K := fun v => some (1, up_ v 814 69 0)) (P := fun v => v 814 77 = h) (src := 869) (so := 47 * h) (dst := 837) (d0 := 0) (e := 47) (fun v j x p => (up_n (by omega)).trans p) (fun n i v p h2 h3 => ?_) (fun n v p => ?_) (Or.inl (by decide)) 47 fu_ 0 v h0 (by decide) (by decide) (by decide)).trans ?_
  · show fX12_undo_21 (n + 1) 814 i v = _
    rw [fX12_undo_21]
    simp (disch := omega) only [↓if_n, ↓ck_t, ↓lt_d, wr_id, Int.zero_add, p]
    rfl
  · show fX12_undo_21 (n + 1) 814 47 v = _
    rw [fX12_undo_21, if_pos (by decide), lt_d]
  · show some (1, up_ (cp_ v 869 (47 * h + 0) 837 0 47) 814 69 0) = _
    rw [show (47 * h + 0 : Int) = 47 * h by omega]
theorem hold20_e (v : V_) (x : Int) (h1 : 0 ≤ x ∧ x < 3) : fX12_hold_20 fu_ 814 x 0 v = some (1, cp_ v 837 0 872 (47 * x) 47) := by
  refine (lp_cp (F := fun n i v => fX12_hold_20 n 814 x i v) (K := fun v => some (1, v)) (P := fun _ => True) (src := 837) (so := 0) (dst := 872) (d0 := 47 * x) (e := 47) (fun _ _ _ _ => trivial) (fun n i v p h2 h3 => ?_) (fun n v p => ?_) (Or.inl (by decide)) 47 fu_ 0 v trivial (by decide) (by decide) (by decide)).trans ?_
  · show fX12_hold_20 (n + 1) 814 x i v = _
    rw [fX12_hold_20]
    simp (disch := omega) only [↓if_n, ↓ck_t, ↓lt_d, wr_id, Int.zero_add]
    rfl
  · show fX12_hold_20 (n + 1) 814 x 47 v = _
    rw [fX12_hold_20, if_pos (by decide)]
  · show some (1, cp_ v 837 0 872 (47 * x + 0) 47) = _
    rw [show (47 * x + 0 : Int) = 47 * x by omega]
theorem rest22_e (v : V_) (x : Int) (h1 : 0 ≤ x ∧ x < 3) : fX12_restore_22 fu_ 814 x 0 v = some (1, up_ (up_ (cp_ v 872 (47 * x) 837 0 47) 814 77 0) 814 69 0) := by
  refine (lp_cp (F := fun n i v => fX12_restore_22 n 814 x i v) (K := fun v => some (1, up_ (up_ v 814 77 0) 814 69 0)) (P := fun _ => True) (src := 872) (so := 47 * x) (dst := 837) (d0 := 0) (e := 47) (fun _ _ _ _ => trivial) (fun n i v p h2 h3 => ?_) (fun n v p => ?_) (Or.inl (by decide)) 47 fu_ 0 v trivial (by decide) (by decide) (by decide)).trans ?_
  · show fX12_restore_22 (n + 1) 814 x i v = _
    rw [fX12_restore_22]
    simp (disch := omega) only [↓if_n, ↓ck_t, ↓lt_d, wr_id, Int.zero_add]
    rfl
  · show fX12_restore_22 (n + 1) 814 x 47 v = _
    rw [fX12_restore_22, if_pos (by decide), lt_d, lt_d]
  · show some (1, up_ (up_ (cp_ v 872 (47 * x + 0) 837 0 47) 814 77 0) 814 69 0) = _
    rw [show (47 * x + 0 : Int) = 47 * x by omega]
