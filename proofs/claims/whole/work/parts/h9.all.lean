/-! layer 2: all calls but read -/
theorem saved_Q {g vc vr : V_} {p : Int} (h : CX_ g p vc vr) (x : Int) : ∃ r vc' vr', fX11_saved 1 x vc = some (r, vc') ∧ fX12_saved 814 x vr = some (r, vr') ∧ QX_ g p vc vr vc' vr' := by
  have hX := h
  obtain ⟨hw, hg, hC, hp, hF, hD, hr, hA⟩ := h
  unfold fX11_saved fX12_saved fX11_isKind
  obtain ⟨i, e, f⟩ := in_e x 0 3 vr
  rw [e, bd_s]
  try dsimp only
  rcases f with ⟨rfl, f⟩ | ⟨rfl, f⟩
  · rw [if_neg (show ¬ x < 0 by omega), if_neg (show ¬ 4 ≤ x by omega), bd_s, if_neg n10_, if_neg n10_]
    try dsimp only
    obtain ⟨vc1, vr1, H, ⟨A1, F1, F2⟩, -⟩ := plan_X hX
    have H' := H
    obtain ⟨e1, ⟨z0, e2⟩, hP, -, -, C1, hp1, hD1⟩ := H'
    have hpb := hC.1
    rw [e1, bd_s, e2, bd_s]
    try dsimp only
    obtain ⟨z, vc2, s1, s2, s3⟩ := saved_T hw hg (x := x) (by omega) C1 hD1 hP
    dsimp only [Int.reduceAdd]
    rw [s1, bd_s]
    try dsimp only
    have S : ∀ a k, ¬ (194 ≤ a ∧ a ≤ 199) → vc2 a k = vc1 a k := fun a k q => s2 a k (by omega) (by omega)
    have C2 : C_ vc2 p g := C_fr hw C1 (fun a k q q2 => S _ _ (by omega)) (fun k _ _ => S _ _ (by omega))
    have A2 : CA_ g p vc2 vr1 := CA_c hw C1 A1 (fun a k q q2 _ => S _ _ q2) (by
      rw [S 1 12 (by omega)]
      rcases A1.2.2.1 with q | ⟨q, q2⟩
      · exact Or.inl q
      · exact Or.inr ⟨q, Ksl_fr q2 (fun k _ _ => S _ _ (by omega)) (fun a k _ _ => S _ _ (by omega))⟩) (by
      rw [S 1 13 (by omega), S 1 11 (by omega)]
      rcases A1.2.2.2 with q | ⟨q, q2, q3⟩
      · exact Or.inl q
      · exact Or.inr ⟨q, q2, Kfa_fr hw C2 q3 (fun k _ _ => S _ _ (by omega)) (fun a k _ _ => S _ _ (by omega)) (fun a k _ _ q4 => S _ _ q4) (fun k => S _ _ (by omega))⟩)
    have Q1' : Q1_ vc vc2 := fun a k q q2 => (S a k (by omega)).trans (F1 a k q q2)
    have e38 : vr1 838 (39 + x) = g 11 (39 + x) := hD1.2.2.2.2.2 _ (by omega) (by omega)
    rw [wr_id (show -2147483648 ≤ 39 + x ∧ 39 + x < 2147483648 by omega), ck_t (by omega)]
    try dsimp only [Int.reduceAdd]
    rcases s3 with ⟨s3, s4⟩ | ⟨s3, vr2, s4, s5⟩
    · rw [if_pos (e38.trans s3), s4]
      exact ⟨0, vc2, vr1, rfl, rfl, A2, Q1', F2⟩
    · rw [if_neg (fun q => s3 (e38.symm.trans q)), ck_t (by omega), ck_t (by omega), lt_d, lt_d, s4]
      refine ⟨z, vc2, vr2, rfl, rfl, ⟨A2.1, Or.inl ?_, A2.2.2.1, A2.2.2.2⟩, Q1', fun a k q q2 => ?_⟩
      · rw [s5 _ _ (by omega) (by omega) (by omega) (by omega), up_s ⟨rfl, rfl⟩]
      · rw [s5 _ _ (by omega) (by omega) (by omega) (by omega), up_n (by omega), up_n (by omega)]
        exact F2 a k q q2
  · rw [if_pos rfl]
    have e0 : (if x < 0 then (some (0, vc) : Option (Int × V_)) else if 4 ≤ x then some (0, vc) else some (1, vc)) = some (0, vc) := by
      by_cases c : x < 0
      · rw [if_pos c]
      · rw [if_neg c, if_pos (by omega)]
    rw [e0, bd_s, if_pos rfl]
    exact ⟨_, vc, vr, rfl, rfl, hA, Q1_r, Q2_r⟩
theorem HB_X {g vc vr vc' vr' : V_} {p : Int} (h : CX_ g p vc vr) (hQ : QX_ g p vc vr vc' vr') : HB_ g p vc vr vc' := ⟨h.2.2.1, h.2.2.2.1, h.2.2.2.2.2.1, fun b b0 b1 => hQ.2.1 _ _ (by have := h.2.2.1.1; omega) (by have := h.2.2.1.1; omega)⟩
theorem r37_X {g vc vr : V_} {p : Int} (h : CX_ g p vc vr) : ∀ k, 14 ≤ k → k < 47 → vr 837 k = g 11 k := fun k k0 k1 => by
  have := h.2.2.2.2.2.1.2.2.2.2.2 k k0 k1
  rw [cp38 _ (by omega) k1] at this
  exact this
theorem HK_X {g vc vr vc' vr' : V_} {p : Int} (h : CX_ g p vc vr) (hT : RT_ vc vr) (hS : RS_ vc vr) (hQ : QX_ g p vc vr vc' vr') : HK_ g vc vr' := by
  have F := hQ.2.2
  refine ⟨?_, ?_, fun x x0 x1 => ?_, fun k k0 k1 => ?_⟩
  · rw [F _ _ (by omega) (by omega)]; exact hT.2.1.symm
  · rw [F _ _ (by omega) (by omega)]; exact hS.2.1.2.2.1.symm
  · rw [F _ _ (by omega) (by omega)]
    exact ⟨(hS.2.2 x x0 x1).1, (hS.2.2 x x0 x1).2.1⟩
  · rw [F _ _ (by omega) (by omega)]; exact r37_X h k k0 k1
theorem all_ok (hr : Tw_ RX_ (fX11_read 1) (fX12_read 814)) : All_ RX_ := by
  refine ⟨fun a b c d e _ _ _ _ _ => tw_f fun vc vr h => feed_T a b c d e h, fun a _ => tw_f fun vc vr h => back_T a h, hr, tw_0 fun vc vr h => place_Q h.2.2.1.1, fun x _ => tw_0 fun vc vr h => reg_T h.2.1 x, fun x _ => tw_0 fun vc vr h => cell_T h.2.1 x, fun x y _ _ => tw_0 fun vc vr h => ?_, fun x y _ _ => tw_q fun g p vc vr _ _ hX => ?_, fun x y _ _ => tw_0 fun vc vr h => ?_, fun x y _ hy => tw_c fun vc vr h => set_T h x y hy, fun x y _ hy => tw_c fun vc vr h => put_T h x y hy, tw_run, tw_c fun vc vr h => clear_T h, fun y hy => tw_c fun vc vr h => ren_T h y hy, fun x u t _ _ _ => tw_c fun vc vr h => units_T h x u t, tw_c fun vc vr h => undo_T h, tw_p fun g p vc0 vr0 vc vr h => traces_Q h, fun x y _ _ => tw_p fun g p vc0 vr0 vc vr h => trace_Q h x y, fun x y _ _ => tw_p fun g p vc0 vr0 vc vr h => member_Q h x y, fun x y k _ _ _ => tw_p fun g p vc0 vr0 vc vr h => item_Q h x y k, fun x y k _ _ _ => tw_p fun g p vc0 vr0 vc vr h => needs_Q h x y k, fun x y k _ _ hk => tw_p fun g p vc0 vr0 vc vr h => copied_Q h x y k hk, fun x y k _ _ _ => tw_p fun g p vc0 vr0 vc vr h => busy_Q h x y k, fun x _ => tw_q fun g p vc vr _ _ hX => slow_Q hX x, fun x _ => tw_q fun g p vc vr _ _ hX => fast_Q hX x, tw_q fun g p vc vr _ _ hX => agrees_Q hX, fun x hx => tw_q fun g p vc vr _ _ hX => left_Q hX x hx, fun x _ => tw_q fun g p vc vr _ _ hX => ?_, fun x _ => tw_q fun g p vc vr _ _ hX => saved_Q hX x, fun x _ => tw_hold x, fun x _ => tw_c fun vc vr h => restore_T h x, fun x _ => tw_q fun g p vc vr hT hS hX => ?_⟩
  · obtain ⟨-, -, -, g, p, -, hX⟩ := h
    exact kind_Q hX.2.2.1 (r37_X hX) x y
  · obtain ⟨vc', vr', H, hQ, -, -, -, -, -, hf, d⟩ := plan_X hX
    obtain ⟨r, vc1, vr1, e1, e2, d1, d2⟩ := block_Q H (HB_X hX hQ) x y
    exact ⟨r, vc1, vr1, e1, e2, mix_X hX H hQ d d1 d2 hf⟩
  · obtain ⟨-, -, -, g, p, -, hX⟩ := h
    exact gone_Q hX.1 hX.2.2.1 hX.2.2.2.1 hX.2.2.2.2.2.1 (r37_X hX) x y
  · obtain ⟨vc', vr', H, hQ, -, -, -, -, -, hf, d⟩ := plan_X hX
    obtain ⟨r, vc1, e1, e2, d1⟩ := growth_Q H (HB_X hX hQ) x
    exact ⟨r, vc1, vr', e1, e2, mix_X hX H hQ d d1 (Or.inr rfl) hf⟩
  · obtain ⟨vc', vr', H, hQ, -, -, -, -, -, hf, d⟩ := plan_X hX
    obtain ⟨r, vc1, e1, e2, d1⟩ := count_Q H (HB_X hX hQ) (HK_X hX hT hS hQ) x
    exact ⟨r, vc1, vr', e1, e2, mix_X hX H hQ d d1 (Or.inr rfl) hf⟩
