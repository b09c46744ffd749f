/-! layer 2: restore, clear, place -/
theorem restore_T {vc vr : V_} (h : RS_ vc vr) (x : Int) : ∃ r vc' vr', fX11_restore 1 x vc = some (r, vc') ∧ fX12_restore 814 x vr = some (r, vr') ∧ ((vc' = vc ∧ vr' = vr) ∨ Ch_ vc vr vc' vr') := by
  obtain ⟨hw, ⟨hh, hp, h77, hrow⟩, hk⟩ := id h
  unfold fX11_restore fX12_restore fX11_isSlot fX12_in
  by_cases c1 : x < 0
  · exact ⟨0, vc, vr, by rw [if_pos c1, bd_s, if_pos rfl], by rw [if_pos c1, bd_s, if_pos rfl], Or.inl ⟨rfl, rfl⟩⟩
  by_cases c2 : 3 ≤ x
  · exact ⟨0, vc, vr, by rw [if_neg c1, if_pos c2, bd_s, if_pos rfl], by rw [if_neg c1, if_pos (by omega), bd_s, if_pos rfl], Or.inl ⟨rfl, rfl⟩⟩
  rw [if_neg c1, if_neg c2, if_neg c1, if_neg (by omega), bd_s, bd_s, if_neg n10_, if_neg n10_]
  obtain ⟨k1, k2, k3⟩ := hk x (by omega) (by omega)
  have eh : fX0_holds 142 x vc = some (vc 188 x, vc) := by
    unfold fX0_holds
    rw [ck_t (by omega), ck_t (show vc (142 + 46) x = 0 ∨ vc (142 + 46) x = 1 from k1)]
    rfl
  show ∃ r vc' vr', bd_ (fX0_holds 142 x vc) _ = _ ∧ _
  rw [eh, bd_s, ck_t (by omega)]
  by_cases c3 : vc 188 x = 0
  · exact ⟨0, vc, vr, if_pos c3, if_pos (k2.trans c3), Or.inl ⟨rfl, rfl⟩⟩
  · have o := k3 (by omega)
    have ex : (142 + 42 + (1 + 1 * x) : Int) = 185 + x := by omega
    have e1 : fX0_bring 142 x 140 vc = some (0, cp_ vc (185 + x) 0 141 0 47) := by
      unfold fX0_bring
      rw [ck_t (by omega), lt_d, ex]
      rfl
    generalize ew : up_ (up_ (up_ (up_ (cp_ vc (185 + x) 0 141 0 47) 142 4 0) 1 11 0) 1 12 0) 1 13 0 = w
    generalize er : up_ (up_ (cp_ vr 872 (47 * x) 837 0 47) 814 77 0) 814 69 0 = r
    have g : ∀ b k, b ≠ 141 → ¬ (b = 142 ∧ k = 4) → ¬ (b = 1 ∧ 11 ≤ k ∧ k ≤ 13) → w b k = vc b k := fun b k q1 q2 q3 => by
      rw [← ew, up_n (by omega), up_n (by omega), up_n (by omega), up_n (by omega), cp_o (by omega)]
    have gw : ∀ k, 0 ≤ k → k < 47 → w 141 k = vc (185 + x) k := fun k k0 k1 => by
      rw [← ew, up_n (by omega), up_n (by omega), up_n (by omega), up_n (by omega), cp_i ⟨by omega, k0, by omega⟩]
      congr 1
      omega
    have w4 : w 142 4 = 0 := by rw [← ew, up_n (by omega), up_n (by omega), up_n (by omega), up_s ⟨rfl, rfl⟩]
    have w3 : w 142 3 = vc 142 3 := g _ _ (by omega) (by omega) (by omega)
    have g2 : ∀ b k, b ≠ 837 → ¬ (b = 814 ∧ (k = 77 ∨ k = 69)) → r b k = vr b k := fun b k q1 q2 => by
      rw [← er, up_n (by omega), up_n (by omega), cp_o (by omega)]
    have r77 : r 814 77 = 0 := by rw [← er, up_n (by omega), up_s ⟨rfl, rfl⟩]
    have gr : ∀ k, 0 ≤ k → k < 47 → r 837 k = vr 872 (47 * x + k) := fun k k0 k1 => by
      rw [← er, up_n (by omega), up_n (by omega), cp_i ⟨rfl, k0, by omega⟩]
      congr 1
      omega
    refine ⟨1, w, r, ?_, ?_, Or.inr ⟨⟨⟨RO_eq o.1 gw, fun k k0 k1 => ?_⟩, ⟨by omega, by omega, by omega, fun m m0 m1 => ?_⟩, ?_⟩, ?_, ?_, ?_, ?_, ?_, Or.inl ?_⟩⟩
    · refine (if_neg c3).trans ?_
      show bd_ (fX0_bring 142 x 140 vc) _ = _
      rw [e1, bd_s]
      unfold fX0_forgetDone
      rw [lt_d, bd_s]
      unfold fX11_forgetAll fX11_forgetRuns
      rw [lt_d, lt_d, lt_d, bd_s, bd_s, ← ew]
      rfl
    · refine (if_neg (fun q => c3 (k2.symm.trans q))).trans ?_
      show fX12_restore_22 fu_ 814 x 0 vr = _
      rw [rest22_e _ _ (by omega), er]
    · have := pm_b ⟨k0, k1⟩
      rw [Int.zero_add, gr _ (by omega) (by omega), gw k k0 k1]
      exact o.2 k k0 k1
    · omega
    · exact RK_eq hk (fun b k q => g _ _ (by omega) (by omega) (by omega)) (fun b k q => g2 _ _ (by omega) (by omega))
    · intro b k q1 q2
      exact g _ _ (by omega) (by omega) q2
    · intro b k q1 q2 q3 q4 q5 q6
      exact g2 _ _ q1 q6
    · rw [← er, up_s ⟨rfl, rfl⟩]
    · rw [← ew, up_n (by omega), up_s ⟨rfl, rfl⟩]
    · rw [← ew, up_s ⟨rfl, rfl⟩]
    · rw [← ew, up_n (by omega), up_n (by omega), up_s ⟨rfl, rfl⟩]
