/-! layer 2: put, rename, reg, cell, hold, restore, undo -/
theorem put_T {vc vr : V_} (h : RS_ vc vr) (x y : Int) (hy : iR_ y) : ∃ r vc' vr', fX11_put 1 x y vc = some (r, vc') ∧ fX12_put 814 x y vr = some (r, vr') ∧ ((vc' = vc ∧ vr' = vr) ∨ Ch_ vc vr vc' vr') := by
  unfold fX11_put fX12_put fX11_isCell fX12_in
  by_cases c1 : x < 0
  · exact ⟨0, vc, vr, by rw [if_pos c1, bd_s, if_pos rfl], by rw [if_pos c1, bd_s, if_pos rfl], Or.inl ⟨rfl, rfl⟩⟩
  · by_cases c2 : 8 ≤ x
    · exact ⟨0, vc, vr, by rw [if_neg c1, if_pos c2, bd_s, if_pos rfl], by rw [if_neg c1, if_pos (by omega), bd_s, if_pos rfl], Or.inl ⟨rfl, rfl⟩⟩
    · rw [if_neg c1, if_neg c2, if_neg c1, if_neg (by omega), bd_s, bd_s, if_neg n10_, if_neg n10_]
      unfold fX7_cellAt
      rw [wr_id (by omega), ck_t (by omega), bd_s]
      have e := h.1.2 (6 + x) (by omega) (by omega)
      rw [show pm_ (6 + x) = 6 + x from if_pos (by omega), Int.zero_add] at e
      by_cases c3 : vc 141 (6 + x) = y
      · refine ⟨0, vc, vr, if_pos c3, ?_, Or.inl ⟨rfl, rfl⟩⟩
        unfold fX12_becomes
        rw [ck_t (by omega), if_pos (show vr (814 + 23) (6 + x) = y from e.trans c3), bd_s, if_pos rfl]
      · obtain ⟨vc1, vr', n1, n2, n3⟩ := low_T h (i := 6 + x) (by omega) hy c3
        refine ⟨1, _, vr', ?_, ?_, Or.inr n3⟩
        · refine (if_neg c3).trans ?_
          show bd_ (fX0_note 142 140 vc) _ = _
          rw [n1, bd_s]
          unfold fX7_setCell fX11_forgetRuns
          rw [wr_id (by omega), ck_t (by omega), lt_d, bd_s, lt_d, lt_d, bd_s]
          rfl
        · rw [n2, bd_s, if_neg n10_]
theorem reg_T {vc vr : V_} (h : RS_ vc vr) (x : Int) : ∃ r, fX11_reg 1 x vc = some (r, vc) ∧ fX12_reg 814 x vr = some (r, vr) := by
  unfold fX11_reg fX12_reg fX11_isRegister fX12_in
  by_cases c1 : x < 0
  · exact ⟨0, by rw [if_pos c1, bd_s, if_pos rfl], by rw [if_pos c1, bd_s, if_pos rfl]⟩
  · by_cases c2 : 6 ≤ x
    · exact ⟨0, by rw [if_neg c1, if_pos c2, bd_s, if_pos rfl], by rw [if_neg c1, if_pos (by omega), bd_s, if_pos rfl]⟩
    · rw [if_neg c1, if_neg c2, if_neg c1, if_neg (by omega), bd_s, bd_s, if_neg n10_, if_neg n10_]
      unfold fX7_register
      have e := h.1.2 x (by omega) (by omega)
      rw [show pm_ x = x from if_pos (by omega), Int.zero_add] at e
      rw [ck_t (by omega), ck_t (by omega), bd_s]
      exact ⟨_, rfl, by show some (vr 837 x, vr) = some (vc 141 x, vr); rw [e]⟩
theorem cell_T {vc vr : V_} (h : RS_ vc vr) (x : Int) : ∃ r, fX11_cell 1 x vc = some (r, vc) ∧ fX12_cell 814 x vr = some (r, vr) := by
  unfold fX11_cell fX12_cell fX11_isCell fX12_in
  by_cases c1 : x < 0
  · exact ⟨0, by rw [if_pos c1, bd_s, if_pos rfl], by rw [if_pos c1, bd_s, if_pos rfl]⟩
  · by_cases c2 : 8 ≤ x
    · exact ⟨0, by rw [if_neg c1, if_pos c2, bd_s, if_pos rfl], by rw [if_neg c1, if_pos (by omega), bd_s, if_pos rfl]⟩
    · rw [if_neg c1, if_neg c2, if_neg c1, if_neg (by omega), bd_s, bd_s, if_neg n10_, if_neg n10_]
      unfold fX7_cellAt
      have e := h.1.2 (6 + x) (by omega) (by omega)
      rw [show pm_ (6 + x) = 6 + x from if_pos (by omega), Int.zero_add] at e
      rw [wr_id (by omega), ck_t (by omega), ck_t (by omega), bd_s]
      exact ⟨_, rfl, by show some (vr 837 (6 + x), vr) = some (vc 141 (6 + x), vr); rw [e]⟩
theorem ren_T {vc vr : V_} (h : RS_ vc vr) (y : Int) (hy : y = 0 ∨ y = 1) : ∃ r vc' vr', fX11_rename 1 y vc = some (r, vc') ∧ fX12_rename 814 y vr = some (r, vr') ∧ ((vc' = vc ∧ vr' = vr) ∨ Ch_ vc vr vc' vr') := by
  have e := h.1.2 46 (by decide) (by decide)
  have e : vr 837 38 = vc 141 46 := e
  have e1 : fX7_renames 140 vc = some (vc 141 46, vc) := by
    unfold fX7_renames
    rcases h.1.1.1 with c | c
    · rw [if_neg (show ¬ vc (140 + 1) 46 = 1 from fun q => by have q : vc 141 46 = 1 := q; omega), c]
    · rw [if_pos (show vc (140 + 1) 46 = 1 from c), c]
  have e2 : fX12_rename 814 y vr = bd_ (fX12_becomes 814 38 y vr) fun q => ck_ (q.1 = 0 ∨ q.1 = 1) (some (q.1, q.2)) := by
    unfold fX12_rename
    rcases hy with rfl | rfl
    · rw [if_pos rfl]
    · rw [if_neg n10_]
  rw [e2]
  unfold fX11_rename
  show ∃ r vc' vr', bd_ (fX7_renames 140 vc) _ = _ ∧ _
  rw [e1, bd_s]
  unfold fX12_becomes
  rw [ck_t (by decide)]
  by_cases c3 : vc 141 46 = y
  · exact ⟨0, vc, vr, if_pos c3, by rw [if_pos (show vr (814 + 23) 38 = y from e.trans c3), bd_s, ck_t (Or.inl rfl)], Or.inl ⟨rfl, rfl⟩⟩
  · have ho : RO_ (fun k => if k = 46 then y else vc 141 k) := by
      obtain ⟨h1, h2, h3, h4, h5⟩ := h.1.1
      refine ⟨by dsimp only; rw [if_pos rfl]; exact hy, fun k a b => ?_, fun k a b => ?_, fun k a b => ?_, fun k a b => ?_⟩ <;> (dsimp only; rw [if_neg (by omega)])
      · exact h2 k a b
      · exact h3 k a b
      · exact h4 k a b
      · exact h5 k a b
    obtain ⟨vc1, vr2, n1, n2, n3, n4⟩ := row_T h 46 y (by decide) ho
    obtain ⟨a1, a2, a3, a4, a5⟩ := n4 (up_ (up_ (up_ (up_ vc1 141 46 y) 1 11 0) 1 12 0) 1 13 0) (fun b k q1 q2 => by rw [up_n (by omega), up_n (by omega), up_n (by omega), up_n (by omega)]) (fun k => by rw [up_n (by omega), up_n (by omega), up_n (by omega)])
    refine ⟨1, _, vr2, ?_, ?_, Or.inr ⟨a1, a2, a3, a4, ?_, up_s ⟨rfl, rfl⟩, Or.inl ?_⟩⟩
    · refine (if_neg c3).trans ?_
      show bd_ (fX0_note 142 140 vc) _ = _
      rw [n1, bd_s]
      have e3 : fX7_setRenames 140 y vc1 = some (0, up_ vc1 141 46 y) := by
        unfold fX7_setRenames
        rcases hy with rfl | rfl
        · rw [if_pos rfl, lt_d]; rfl
        · rw [if_neg n10_, lt_d]; rfl
      show bd_ (fX7_setRenames 140 y vc1) _ = _
      rw [e3, bd_s]
      unfold fX11_forgetAll fX11_forgetRuns
      rw [lt_d, lt_d, lt_d, bd_s, bd_s]
    · rw [if_neg (show ¬ vr (814 + 23) 38 = y from fun q => c3 (e.symm.trans q)), copies_e, bd_s, ck_t (by decide), lt_d]
      show bd_ (bd_ (fX12_records 814 (up_ (cp_ vr 837 0 838 0 47) 838 (pm_ 46) y)) _) _ = _
      rw [n2, bd_s, bd_s, ck_t (Or.inr rfl)]
    · rw [up_n (by omega), up_s ⟨rfl, rfl⟩]
    · rw [up_n (by omega), up_n (by omega), up_s ⟨rfl, rfl⟩]
