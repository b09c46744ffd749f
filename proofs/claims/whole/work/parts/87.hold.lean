/-! layer 2: undo, hold, restore, units -/
theorem units_T {vc vr : V_} (h : RS_ vc vr) (x u t : Int) : ∃ r vc' vr', fX11_units 1 x u t vc = some (r, vc') ∧ fX12_units 814 x u t vr = some (r, vr') ∧ ((vc' = vc ∧ vr' = vr) ∨ Ch_ vc vr vc' vr') := by
  unfold fX11_units fX12_units fX11_isKind fX12_in
  by_cases c1 : x < 0
  · exact ⟨0, vc, vr, by rw [if_pos c1, bd_s, if_pos rfl], by rw [if_pos c1, bd_s, if_pos rfl], Or.inl ⟨rfl, rfl⟩⟩
  by_cases c2 : 4 ≤ x
  · exact ⟨0, vc, vr, by rw [if_neg c1, if_pos c2, bd_s, if_pos rfl], by rw [if_neg c1, if_pos (by omega), bd_s, if_pos rfl], Or.inl ⟨rfl, rfl⟩⟩
  rw [if_neg c1, if_neg c2, if_neg c1, if_neg (by omega), bd_s, bd_s, if_neg n10_, if_neg n10_]
  by_cases c3 : u < 1
  · exact ⟨0, vc, vr, by rw [if_pos c3], by rw [if_pos c3, bd_s, if_pos rfl], Or.inl ⟨rfl, rfl⟩⟩
  rw [if_neg c3, if_neg c3]
  by_cases c4 : 4 < u
  · exact ⟨0, vc, vr, by rw [if_pos c4], by rw [if_pos c4, bd_s, if_pos rfl], Or.inl ⟨rfl, rfl⟩⟩
  rw [if_neg c4, if_neg c4, bd_s, if_neg n10_]
  by_cases c5 : t < 1
  · exact ⟨0, vc, vr, by rw [if_pos c5], by rw [if_pos c5, bd_s, if_pos rfl], Or.inl ⟨rfl, rfl⟩⟩
  rw [if_neg c5, if_neg c5]
  by_cases c6 : t ≤ 6
  rotate_left
  · exact ⟨0, vc, vr, by rw [if_neg c6], by rw [if_pos (by omega), bd_s, if_pos rfl], Or.inl ⟨rfl, rfl⟩⟩
  rw [if_pos c6, if_neg (by omega), bd_s, if_neg n10_]
  have eu := h.1.2 (38 + x) (by omega) (by omega)
  have pu : pm_ (38 + x) = 39 + x := by unfold pm_; rw [if_neg (by omega), if_neg (by omega)]; omega
  rw [pu, Int.zero_add] at eu
  have el := h.1.2 (42 + x) (by omega) (by omega)
  have pl : pm_ (42 + x) = 43 + x := by unfold pm_; rw [if_neg (by omega), if_neg (by omega)]; omega
  rw [pl, Int.zero_add] at el
  unfold fX7_unitsOf fX7_latencyOf
  rw [wr_id (show -2147483648 ≤ 38 + x ∧ 38 + x < 2147483648 by omega), wr_id (show -2147483648 ≤ 39 + x ∧ 39 + x < 2147483648 by omega), wr_id (show -2147483648 ≤ 42 + x ∧ 42 + x < 2147483648 by omega), wr_id (show -2147483648 ≤ 43 + x ∧ 43 + x < 2147483648 by omega), ck_t (by omega), ck_t (by omega), bd_s]
  have go : ∃ vc' vr', fX11_units_56 1 x u t vc = some (1, vc') ∧ fX12_units_56 814 x u t vr = some (1, vr') ∧ Ch_ vc vr vc' vr' := by
    obtain ⟨vc1, vr2, n1, n2, n3, n3b, n4⟩ := chg_T (vr1 := up_ (up_ (cp_ vr 837 0 838 0 47) 838 (39 + x) u) 838 (43 + x) t) h (fun b k q => by rw [up_n (by omega), up_n (by omega), cp_o (by omega)])
    have e : ∀ k, up_ (up_ (up_ (up_ (up_ vc1 141 (38 + x) u) 141 (42 + x) t) 1 11 0) 1 12 0) 1 13 0 141 k = if k = 42 + x then t else if k = 38 + x then u else vc 141 k := fun k => by
      rw [up_n (by omega), up_n (by omega), up_n (by omega)]
      by_cases d1 : k = 42 + x
      · rw [if_pos d1, up_s ⟨rfl, d1⟩]
      · rw [if_neg d1, up_n (fun q => d1 q.2)]
        by_cases d2 : k = 38 + x
        · rw [if_pos d2, up_s ⟨rfl, d2⟩]
        · rw [if_neg d2, up_n (fun q => d2 q.2), n3]
    obtain ⟨a1, a2, a3, a4⟩ := n4 (up_ (up_ (up_ (up_ (up_ vc1 141 (38 + x) u) 141 (42 + x) t) 1 11 0) 1 12 0) 1 13 0) (fun b k q1 q2 => by rw [up_n (by omega), up_n (by omega), up_n (by omega), up_n (by omega), up_n (by omega)]) (by
      obtain ⟨h1, h2, h3, h4, h5⟩ := h.1.1
      refine ⟨?_, fun k a b => ?_, fun k a b => ?_, fun k a b => ?_, fun k a b => ?_⟩ <;> rw [e]
      · rw [if_neg (by omega), if_neg (by omega)]; exact h1
      · rw [if_neg (by omega), if_neg (by omega)]; exact h2 k a b
      · rw [if_neg (by omega), if_neg (by omega)]; exact h3 k a b
      · rw [if_neg (by omega)]
        split
        · omega
        · exact h4 k a b
      · split
        · omega
        · rw [if_neg (by omega)]
          exact h5 k a b) (fun k k0 k1 => by
      have := pm_b ⟨k0, k1⟩
      rw [e]
      by_cases d1 : k = 42 + x
      · rw [if_pos d1, up_s ⟨rfl, by rw [d1, pl]⟩]
      · rw [if_neg d1, up_n (fun q => d1 (pm_inj ⟨k0, k1⟩ ⟨by omega, by omega⟩ (q.2.trans pl.symm)))]
        by_cases d2 : k = 38 + x
        · rw [if_pos d2, up_s ⟨rfl, by rw [d2, pu]⟩]
        · rw [if_neg d2, up_n (fun q => d2 (pm_inj ⟨k0, k1⟩ ⟨by omega, by omega⟩ (q.2.trans pu.symm))), cp_i ⟨rfl, by omega, by omega⟩, ← h.1.2 k k0 k1]
          congr 1
          omega)
    refine ⟨_, vr2, ?_, ?_, a1, a2, a3, a4, ?_, up_s ⟨rfl, rfl⟩, Or.inl ?_⟩
    · unfold fX11_units_56
      show bd_ (fX0_note 142 140 vc) _ = _
      rw [n1, bd_s]
      unfold fX7_setUnits
      rw [wr_id (by omega), wr_id (by omega), ck_t (by omega), lt_d, ck_t (by omega), lt_d, bd_s]
      unfold fX11_forgetAll fX11_forgetRuns
      rw [lt_d, lt_d, lt_d, bd_s, bd_s]
      rfl
    · unfold fX12_units_56
      rw [copies_e, bd_s, wr_id (by omega), wr_id (by omega), ck_t (by omega), lt_d, ck_t (by omega), lt_d]
      show bd_ (fX12_records 814 (up_ (up_ (cp_ vr 837 0 838 0 47) 838 (39 + x) u) 838 (43 + x) t)) _ = _
      rw [n2, bd_s]
    · rw [up_n (by omega), up_s ⟨rfl, rfl⟩]
    · rw [up_n (by omega), up_n (by omega), up_s ⟨rfl, rfl⟩]
  obtain ⟨vc', vr', g1, g2, g3⟩ := go
  by_cases c7 : vc 141 (38 + x) = u
  · rw [if_pos (show vr (814 + 23) (39 + x) = u from eu.trans c7)]
    by_cases c8 : vc 141 (42 + x) = t
    · refine ⟨0, vc, vr, ?_, ?_, Or.inl ⟨rfl, rfl⟩⟩
      · refine (if_pos c7).trans ?_
        rw [ck_t (by omega), bd_s]
        exact if_pos c8
      · rw [ck_t (by omega)]
        exact if_pos (el.trans c8)
    · refine ⟨1, vc', vr', ?_, ?_, Or.inr g3⟩
      · refine (if_pos c7).trans ?_
        rw [ck_t (by omega), bd_s]
        exact (if_neg c8).trans g1
      · rw [ck_t (by omega)]
        exact (if_neg (fun q => c8 (el.symm.trans q))).trans g2
  · exact ⟨1, vc', vr', (if_neg c7).trans g1, (if_neg (fun q => c7 (eu.symm.trans q))).trans g2, Or.inr g3⟩
