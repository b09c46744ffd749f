/-! layer 2: hold, restore, undo -/
def Hd_ (vc vr vc' vr' : V_) : Prop := RS_ vc' vr' ∧ (∀ b k, ¬ (185 ≤ b ∧ b ≤ 188) → vc' b k = vc b k) ∧ ∀ b k, b ≠ 871 → b ≠ 872 → vr' b k = vr b k
theorem hold_T {vc vr : V_} (h : RS_ vc vr) (x : Int) : ∃ r vc' vr', fX11_hold 1 x vc = some (r, vc') ∧ fX12_hold 814 x vr = some (r, vr') ∧ Hd_ vc vr vc' vr' := by
  unfold fX11_hold fX12_hold fX11_isSlot fX12_in
  by_cases c1 : x < 0
  · exact ⟨0, vc, vr, by rw [if_pos c1, bd_s, if_pos rfl], by rw [if_pos c1, bd_s, if_pos rfl], h, fun _ _ _ => rfl, fun _ _ _ _ => rfl⟩
  by_cases c2 : 3 ≤ x
  · exact ⟨0, vc, vr, by rw [if_neg c1, if_pos c2, bd_s, if_pos rfl], by rw [if_neg c1, if_pos (by omega), bd_s, if_pos rfl], h, fun _ _ _ => rfl, fun _ _ _ _ => rfl⟩
  rw [if_neg c1, if_neg c2, if_neg c1, if_neg (by omega), bd_s, bd_s, if_neg n10_, if_neg n10_]
  unfold fX0_keep
  have ex : (1 + 141 + 42 + (1 + 1 * x) : Int) = 185 + x := by omega
  rw [ck_t (by omega), ck_t (by omega), lt_d, ck_t (by omega), lt_d, bd_s, lt_d, ex, hold20_e _ _ (by omega)]
  have g : ∀ b k, ¬ (185 ≤ b ∧ b ≤ 188) → up_ (cp_ vc 141 0 (185 + x) 0 47) 188 x 1 b k = vc b k := fun b k q => by
    rw [up_n (by omega), cp_o (by omega)]
  have g2 : ∀ b k, b ≠ 871 → b ≠ 872 → cp_ (up_ vr 871 x 1) 837 0 872 (47 * x) 47 b k = vr b k := fun b k q1 q2 => by
    rw [cp_o (by omega), up_n (by omega)]
  refine ⟨1, up_ (cp_ vc 141 0 (185 + x) 0 47) 188 x 1, cp_ (up_ vr 871 x 1) 837 0 872 (47 * x) 47, rfl, rfl, ⟨?_, ?_, ?_⟩, g, g2⟩
  · exact RW_eq h.1 (fun k _ _ => g _ _ (by omega)) (fun k _ _ => g2 _ _ (by decide) (by decide))
  · exact RH_eq h.2.1 (fun b k q => g _ _ (by omega)) (fun k => g2 _ _ (by decide) (by decide)) (g2 _ _ (by decide) (by decide))
  · intro z z0 z1
    obtain ⟨k1, k2, k3⟩ := h.2.2 z z0 z1
    by_cases c : z = x
    · subst c
      rw [up_s ⟨rfl, rfl⟩, cp_o (by omega), up_s ⟨rfl, rfl⟩]
      refine ⟨Or.inr rfl, rfl, fun _ => ⟨RO_eq h.1.1 (fun k k0 k1 => ?_), fun k k0 k1 => ?_⟩⟩
      · rw [up_n (by omega), cp_i ⟨rfl, k0, by omega⟩]
        congr 1
        omega
      · have := pm_b ⟨k0, k1⟩
        have t := h.1.2 k k0 k1
        rw [up_n (by omega), cp_i ⟨rfl, by omega, by omega⟩, up_n (by omega), cp_i ⟨rfl, k0, by omega⟩, show (0 : Int) + (k - 0) = k by omega, ← t]
        congr 1
        omega
    · have f1 : up_ (cp_ vc 141 0 (185 + x) 0 47) 188 x 1 188 z = vc 188 z := by rw [up_n (by omega), cp_o (by omega)]
      have f2 : cp_ (up_ vr 871 x 1) 837 0 872 (47 * x) 47 871 z = vr 871 z := by rw [cp_o (by omega), up_n (by omega)]
      rw [f1, f2]
      exact ⟨k1, k2, fun q => RW_eq (k3 q) (fun k _ _ => by rw [up_n (by omega), cp_o (by omega)]) (fun k _ _ => by rw [cp_o (by omega), up_n (by omega)])⟩
theorem undo_T {vc vr : V_} (h : RS_ vc vr) : ∃ r vc' vr', fX11_undo 1 vc = some (r, vc') ∧ fX12_undo 814 vr = some (r, vr') ∧ ((vc' = vc ∧ vr' = vr) ∨ Ch_ vc vr vc' vr') := by
  obtain ⟨hw, ⟨hh, hp, h77, hrow⟩, hk⟩ := id h
  generalize e3 : vc 142 3 = p at hp hrow
  generalize e4 : vc 142 4 = n at hh h77 hrow
  unfold fX11_undo fX12_undo
  show ∃ r vc' vr', bd_ (fX0_takeBack 142 140 vc) _ = _ ∧ _
  unfold fX0_takeBack
  by_cases c : n = 0
  · refine ⟨0, vc, vr, ?_, ?_, Or.inl ⟨rfl, rfl⟩⟩
    · rw [if_pos (by omega), bd_s, if_pos rfl]
    · rw [if_pos (by omega)]
  · have ex : (142 + 1 + (1 + 1 * p) : Int) = 144 + p := by omega
    have a3 : cp_ vc (144 + p) 0 (140 + 1) 0 47 142 3 = p := by rw [cp_o (by omega), e3]
    have tq : Int.tmod (p + 40 - 1) 40 = (p + 39) % 40 := by rw [Int.tmod_eq_emod_of_nonneg (by omega)]; omega
    generalize eq : (p + 39) % 40 = q at tq
    have a4 : up_ (cp_ vc (144 + p) 0 (140 + 1) 0 47) 142 3 q 142 4 = n := by rw [up_n (by omega), cp_o (by omega), e4]
    rw [if_neg (by omega), e3, ck_t (by omega), lt_d, ex, a3, wr_id (show -2147483648 ≤ p + 40 ∧ p + 40 < 2147483648 by omega), wr_id (show -2147483648 ≤ p + 40 - 1 ∧ p + 40 - 1 < 2147483648 by omega), tq, lt_d, a4, wr_id (by omega), lt_d, bd_s, if_neg n10_]
    rw [if_neg (by omega), h77, wr_id (by omega), lt_d, undo21_e _ (n - 1) (up_s ⟨rfl, rfl⟩) (by omega)]
    unfold fX11_forgetAll fX11_forgetRuns
    rw [lt_d, lt_d, lt_d, bd_s, bd_s]
    generalize ew : up_ (up_ (up_ (up_ (up_ (cp_ vc (144 + p) 0 (140 + 1) 0 47) 142 3 q) 142 4 (n - 1)) 1 11 0) 1 12 0) 1 13 0 = w
    generalize er : up_ (cp_ (up_ vr 814 77 (n - 1)) 869 (47 * (n - 1)) 837 0 47) 814 69 0 = r
    have g : ∀ b k, b ≠ 141 → ¬ (b = 142 ∧ (k = 3 ∨ k = 4)) → ¬ (b = 1 ∧ 11 ≤ k ∧ k ≤ 13) → w b k = vc b k := fun b k q1 q2 q3 => by
      rw [← ew, up_n (by omega), up_n (by omega), up_n (by omega), up_n (by omega), up_n (by omega), cp_o (by omega)]
    have gw : ∀ k, 0 ≤ k → k < 47 → w 141 k = vc (144 + p) k := fun k k0 k1 => by
      rw [← ew, up_n (by omega), up_n (by omega), up_n (by omega), up_n (by omega), up_n (by omega), cp_i ⟨by omega, k0, by omega⟩]
      congr 1
      omega
    have w3 : w 142 3 = q := by rw [← ew, up_n (by omega), up_n (by omega), up_n (by omega), up_n (by omega), up_s ⟨rfl, rfl⟩]
    have w4 : w 142 4 = n - 1 := by rw [← ew, up_n (by omega), up_n (by omega), up_n (by omega), up_s ⟨rfl, rfl⟩]
    have g2 : ∀ b k, b ≠ 837 → ¬ (b = 814 ∧ (k = 77 ∨ k = 69)) → r b k = vr b k := fun b k q1 q2 => by
      rw [← er, up_n (by omega), cp_o (by omega), up_n (by omega)]
    have r77 : r 814 77 = n - 1 := by rw [← er, up_n (by omega), cp_o (by omega), up_s ⟨rfl, rfl⟩]
    have gr : ∀ k, 0 ≤ k → k < 47 → r 837 k = vr 869 (47 * (n - 1) + k) := fun k k0 k1 => by
      rw [← er, up_n (by omega), cp_i ⟨rfl, k0, by omega⟩, up_n (by omega)]
      congr 1
      omega
    have o := hrow (n - 1) (by omega) (by omega)
    rw [show (p - n + 1 + (n - 1)) % 40 = p by omega] at o
    refine ⟨1, w, r, rfl, rfl, Or.inr ⟨⟨⟨RO_eq o.1 gw, fun k k0 k1 => ?_⟩, ⟨by omega, by omega, by omega, fun m m0 m1 => ?_⟩, ?_⟩, ?_, ?_, ?_, ?_, ?_, Or.inl ?_⟩⟩
    · have := pm_b ⟨k0, k1⟩
      rw [Int.zero_add, gr _ (by omega) (by omega), gw k k0 k1]
      exact o.2 k k0 k1
    · rw [w4] at m1
      rw [w3, w4, show (q - (n - 1) + 1 + m) % 40 = (p - n + 1 + m) % 40 by omega]
      exact RW_eq (hrow m m0 (by omega)) (fun k _ _ => g _ _ (by omega) (by omega) (by omega)) (fun k _ _ => g2 _ _ (by decide) (by omega))
    · exact RK_eq hk (fun b k q => g _ _ (by omega) (by omega) (by omega)) (fun b k q => g2 _ _ (by omega) (by omega))
    · intro b k q1 q2
      exact g _ _ (by omega) (by omega) q2
    · intro b k q1 q2 q3 q4 q5 q6
      exact g2 _ _ q1 q6
    · rw [← er, up_s ⟨rfl, rfl⟩]
    · rw [← ew, up_n (by omega), up_s ⟨rfl, rfl⟩]
    · rw [← ew, up_s ⟨rfl, rfl⟩]
    · rw [← ew, up_n (by omega), up_n (by omega), up_s ⟨rfl, rfl⟩]
