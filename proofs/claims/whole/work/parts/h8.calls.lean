/-! layer 2: the relation, and every call but read -/
/-- the words of texts, as numbers of letters -/
def wd_ (k : Int) : List Int := if k = 0 then [21, 14, 9, 20, 19] else if k = 1 then [2, 12, 15, 3, 11] else if k = 2 then [19, 21, 13, 19] else if k = 3 then [8, 1, 18, 4] else if k = 4 then [3, 5, 12, 12, 19] else if k = 5 then [10, 21, 13, 16, 19] else if k = 6 then [1, 20] else if k = 7 then [7, 15, 20, 15] else if k = 8 then [9, 6] else if k = 9 then [5, 12, 19, 5] else if k = 10 then [19, 20, 15, 16] else [k - 10]
def pw_ (B : Int) (s : List Int) : Int := s.foldl (fun a d => a * B + d) 0
def RN_ (vc vr : V_) : Prop := ∀ k, 0 ≤ k → k < 17 → vc 5 k = pw_ 32 (wd_ k) ∧ vr 821 k = pw_ 27 (wd_ k)
def RV_ (vc vr : V_) : Prop := vc 1 2 = vr 814 17 ∧ RN_ vc vr
theorem RV_w {vc vr wc wr : V_} (h : RV_ vc vr) (f1 : wc 1 2 = vc 1 2) (f5 : ∀ k, wc 5 k = vc 5 k) (f17 : wr 814 17 = vr 814 17) (f8 : ∀ k, wr 821 k = vr 821 k) : RV_ wc wr := by
  refine ⟨by rw [f1, f17]; exact h.1, fun k k0 k1 => ?_⟩
  rw [f5, f8]
  exact h.2 k k0 k1
def RX_ (vc vr : V_) : Prop := RT_ vc vr ∧ RS_ vc vr ∧ RV_ vc vr ∧ ∃ g p, vc 1 5 = 88 - p ∧ CX_ g p vc vr
theorem CX_w {g vc vr wc wr : V_} {p : Int} (h : CX_ g p vc vr) (f1 : ∀ a k, (12 ≤ a ∧ a < 140) ∨ a = 141 ∨ (189 ≤ a ∧ a < 814) → wc a k = vc a k) (f2 : ∀ k, k = 4 ∨ (11 ≤ k ∧ k ≤ 13) → wc 1 k = vc 1 k) (f3 : ∀ a k, 823 ≤ a → a ≤ 863 → wr a k = vr a k) (f4 : ∀ k, k = 18 ∨ k = 52 ∨ k = 69 → wr 814 k = vr 814 k) : CX_ g p wc wr := by
  obtain ⟨hw, hg, hC, hp, hF, hD, hr, h11, h69, h12, h13⟩ := h
  have hpb := hC.1
  have C' : C_ wc p g := C_fr hw hC (fun a k q q2 => f1 a k (by omega)) (fun k _ _ => f1 _ _ (by omega))
  have e11 : wc 1 11 = vc 1 11 := f2 _ (by omega)
  refine ⟨hw, hg, C', ?_, ?_, D_fr hD ?_ (fun a k q q2 => ?_) (fun k k0 k1 => ?_), fun k k0 k1 => ?_, ?_, ?_, ?_, ?_⟩
  · rw [f2 _ (by omega)]; exact hp
  · have e : wc (p + 5) = vc (p + 5) := funext fun k => f1 _ _ (by omega)
    rw [e]
    exact hF
  · rw [cp_o (by omega), cp_o (by omega)]; exact f4 _ (by omega)
  · rw [cp_o (by omega), cp_o (by omega)]; exact f3 _ _ (by omega) (by omega)
  · rw [cp38 _ (by omega) k1, cp38 _ (by omega) k1]; exact f3 _ _ (by omega) (by omega)
  · rw [f3 _ _ (by omega) (by omega), f1 _ _ (by omega)]; exact hr k k0 k1
  · rw [e11]
    rcases h11 with q | ⟨q, q2⟩
    · exact Or.inl q
    · exact Or.inr ⟨q, Kpl_fr hw hC q2 (fun a k _ _ _ => f1 a k (by omega)) (fun k => f1 _ _ (by omega))⟩
  · rw [e11, f4 69 (by omega)]
    rcases h69 with q | ⟨q, hD0, q2⟩
    · exact Or.inl q
    · have hD1 : D_ wr g := D_fr hD0 (f4 _ (by omega)) (fun a k _ _ => f3 _ _ (by omega) (by omega)) (fun k _ _ => f3 _ _ (by omega) (by omega))
      refine Or.inr ⟨q, hD1, ?_⟩
      rcases q2 with ⟨y, y2⟩ | ⟨y, y2⟩
      · exact Or.inl ⟨y, PL_fr hw hC hD0 hD1 y2 (fun a k _ _ _ => f1 a k (by omega)) (fun k => f1 _ _ (by omega)) (fun a k _ _ => f3 _ _ (by omega) (by omega)) (f4 _ (by omega))⟩
      · exact Or.inr ⟨y, Krl_fr hw hD0 hD1 y2 (fun a k _ _ => f3 _ _ (by omega) (by omega)) (f4 _ (by omega))⟩
  · rw [f2 12 (by omega)]
    rcases h12 with q | ⟨q, q2⟩
    · exact Or.inl q
    · exact Or.inr ⟨q, Ksl_fr q2 (fun k _ _ => f1 _ _ (by omega)) (fun a k _ _ => f1 _ _ (by omega))⟩
  · rw [f2 13 (by omega), e11]
    rcases h13 with q | ⟨q, q2, q3⟩
    · exact Or.inl q
    · exact Or.inr ⟨q, q2, Kfa_fr hw C' q3 (fun k _ _ => f1 _ _ (by omega)) (fun a k _ _ => f1 _ _ (by omega)) (fun a k _ _ _ => f1 _ _ (by omega)) (fun k => f1 _ _ (by omega))⟩
theorem RT_w {vc vr wc wr : V_} (h : RT_ vc vr) (f1 : wc 1 1 = vc 1 1) (f2 : ∀ k, wc 2 k = vc 2 k) (f3 : wr 814 2 = vr 814 2) (f4 : ∀ k, wr 815 k = vr 815 k) : RT_ wc wr := by
  unfold RT_
  rw [f1, f3]
  refine ⟨h.1, h.2.1, fun i i0 i1 => ?_⟩
  rw [f2, f4]
  exact h.2.2 i i0 i1
theorem RS_w {vc vr wc wr : V_} (h : RS_ vc vr) (f1 : ∀ a k, 141 ≤ a → a ≤ 188 → wc a k = vc a k) (f2 : ∀ a k, a = 837 ∨ a = 869 ∨ a = 871 ∨ a = 872 → wr a k = vr a k) (f3 : wr 814 77 = vr 814 77) : RS_ wc wr := ⟨RW_eq h.1 (fun k _ _ => f1 _ _ (by omega) (by omega)) (fun k _ _ => f2 _ _ (by omega)), RH_eq h.2.1 (fun b k q => f1 b k (by omega) (by omega)) (fun k => f2 _ _ (by omega)) f3, RK_eq h.2.2 (fun b k q => f1 b k (by omega) (by omega)) (fun b k q => f2 b k (by omega))⟩
theorem RX_l : Lc_ RX_ := fun vc vr wc wr h f1 f2 => by
  obtain ⟨h1, h2, h3, g, p, h4, h5⟩ := h
  refine ⟨RT_w h1 (f1 _ _ (by omega)) (fun k => f1 _ _ (by omega)) (f2 _ _ (by omega)) (fun k => f2 _ _ (by omega)), RS_w h2 (fun a k _ _ => f1 _ _ (by omega)) (fun a k q => f2 _ _ (by omega)) (f2 _ _ (by omega)), ?_, g, p, ?_, CX_w h5 (fun a k q => f1 _ _ (by omega)) (fun k q => f1 _ _ (by omega)) (fun a k q q2 => f2 _ _ (by omega)) (fun k q => f2 _ _ (by omega))⟩
  · exact RV_w h3 (f1 _ _ (by omega)) (fun k => f1 _ _ (by omega)) (f2 _ _ (by omega)) (fun k => f2 _ _ (by omega))
  · rw [f1 _ _ (by omega)]; exact h4
/-- behind a question -/
theorem RX_q {g vc vr vc' vr' : V_} {p : Int} (h1 : RT_ vc vr) (h2 : RS_ vc vr) (h3 : RV_ vc vr) (h4 : vc 1 5 = 88 - p) (h5 : CX_ g p vc vr) (hq : QX_ g p vc vr vc' vr') : RX_ vc' vr' ∧ Fc_ vc vc' ∧ Fr_ vr vr' := by
  obtain ⟨hA, q1, q2⟩ := hq
  obtain ⟨hw, hg, hC, hp, hF, hD, hr, -⟩ := h5
  have hpb := hC.1
  refine ⟨⟨RT_w h1 (q1 _ _ (by omega) (by omega)) (fun k => q1 _ _ (by omega) (by omega)) (q2 _ _ (by omega) (by omega)) (fun k => q2 _ _ (by omega) (by omega)), RS_w h2 (fun a k _ _ => q1 _ _ (by omega) (by omega)) (fun a k q => q2 _ _ (by omega) (by omega)) (q2 _ _ (by omega) (by omega)), ?_, g, p, ?_, hw, hg, C_fr hw hC (fun a k q q' => q1 _ _ (by omega) (by omega)) (fun k _ _ => q1 _ _ (by omega) (by omega)), ?_, ?_, D_fr hD ?_ (fun a k q q' => ?_) (fun k k0 k1 => ?_), fun k k0 k1 => ?_, hA⟩, fun a k q => q1 _ _ (by omega) (by omega), fun a k q => q2 _ _ (by omega) (by omega)⟩
  · exact RV_w h3 (q1 _ _ (by omega) (by omega)) (fun k => q1 _ _ (by omega) (by omega)) (q2 _ _ (by omega) (by omega)) (fun k => q2 _ _ (by omega) (by omega))
  · rw [q1 _ _ (by omega) (by omega)]; exact h4
  · rw [q1 _ _ (by omega) (by omega)]; exact hp
  · have e : vc' (p + 5) = vc (p + 5) := funext fun k => q1 _ _ (by omega) (by omega)
    rw [e]
    exact hF
  · rw [cp_o (by omega), cp_o (by omega)]; exact q2 _ _ (by omega) (by omega)
  · rw [cp_o (by omega), cp_o (by omega)]; exact q2 _ _ (by omega) (by omega)
  · rw [cp38 _ (by omega) k1, cp38 _ (by omega) k1]; exact q2 _ _ (by omega) (by omega)
  · rw [q2 _ _ (by omega) (by omega), q1 _ _ (by omega) (by omega)]; exact hr k k0 k1
theorem tw_q {fc fr : V_ → Option (Int × V_)} (h : ∀ g p vc vr, RT_ vc vr → RS_ vc vr → CX_ g p vc vr → ∃ r vc' vr', fc vc = some (r, vc') ∧ fr vr = some (r, vr') ∧ QX_ g p vc vr vc' vr') : Tw_ RX_ fc fr := fun vc vr hR => by
  obtain ⟨h1, h2, h3, g, p, h4, h5⟩ := hR
  obtain ⟨r, vc', vr', e1, e2, hq⟩ := h g p vc vr h1 h2 h5
  exact ⟨r, vc', vr', e1, e2, RX_q h1 h2 h3 h4 h5 hq⟩
/-- any mix of planned and unplanned -/
theorem mix_X {g vc vr vc' vr' : V_} {p : Int} (h : CX_ g p vc vr) (H : HP_ g p vc vr vc' vr') (hQ : QX_ g p vc vr vc' vr') (d : (vc 1 11 = 1 ∧ vc' = vc) ∨ (vc 1 11 = 0 ∧ Fql_ vc vc' ∧ Krl_ g p vr')) {vc1 vr1 : V_} (h1 : vc1 = vc ∨ vc1 = vc') (h2 : vr1 = vr ∨ vr1 = vr') (hf : Fpl_ vr vr') : QX_ g p vc vr vc1 vr1 := by
  obtain ⟨hw, hg, hC, hp, hF, hD, hr, hA⟩ := h
  rcases h1 with rfl | rfl
  · rcases h2 with rfl | rfl
    · exact ⟨hA, Q1_r, Q2_r⟩
    · refine ⟨⟨hA.1, Or.inr ⟨hf.2, H.2.2.2.2.2.2.2, ?_⟩, hA.2.2.1, hA.2.2.2⟩, Q1_r, hQ.2.2⟩
      rcases d with ⟨d, d2⟩ | ⟨d, -, d2⟩
      · exact Or.inl ⟨d, by rw [← d2]; exact H.2.2.1⟩
      · exact Or.inr ⟨d, d2⟩
  · rcases h2 with rfl | rfl
    · refine ⟨⟨hQ.1.1, ?_, hQ.1.2.2.1, hQ.1.2.2.2⟩, hQ.2.1, Q2_r⟩
      rcases hA.2.1 with q | ⟨q, hD0, ⟨y, y2⟩ | ⟨y, y2⟩⟩
      · exact Or.inl q
      · rcases d with ⟨d, d2⟩ | ⟨d, -⟩
        · rw [d2]
          exact Or.inr ⟨q, hD0, Or.inl ⟨y, y2⟩⟩
        · omega
      · obtain ⟨w, e, e2, e3⟩ := y2 vc hC hp hF y
        have ew : w = vc1 := (Prod.mk.inj (Option.some.inj (e.symm.trans H.1))).2
        rw [ew] at e2 e3
        exact Or.inr ⟨q, hD0, Or.inl ⟨e3.2, e2⟩⟩
    · exact hQ
theorem tw_p {fc fr : V_ → Option (Int × V_)} (h : ∀ g p vc0 vr0 vc vr, HP_ g p vc0 vr0 vc vr → ∃ r, fc vc0 = some (r, vc) ∧ fr vr0 = some (r, vr)) : Tw_ RX_ fc fr := tw_q fun g p vc vr _ _ hX => by
  obtain ⟨vc', vr', H, hQ, -⟩ := plan_X hX
  obtain ⟨r, e1, e2⟩ := h g p vc vr vc' vr' H
  exact ⟨r, vc', vr', e1, e2, hQ⟩
/-- calls that leave all as it is -/
theorem tw_0 {fc fr : V_ → Option (Int × V_)} (h : ∀ vc vr, RX_ vc vr → ∃ r, fc vc = some (r, vc) ∧ fr vr = some (r, vr)) : Tw_ RX_ fc fr := fun vc vr hR => by
  obtain ⟨r, e1, e2⟩ := h vc vr hR
  exact ⟨r, vc, vr, e1, e2, hR, fun _ _ _ => rfl, fun _ _ _ => rfl⟩
/-- calls that change the state -/
theorem tw_c {fc fr : V_ → Option (Int × V_)} (h : ∀ vc vr, RS_ vc vr → ∃ r vc' vr', fc vc = some (r, vc') ∧ fr vr = some (r, vr') ∧ ((vc' = vc ∧ vr' = vr) ∨ Ch_ vc vr vc' vr')) : Tw_ RX_ fc fr := fun vc vr hR => by
  have hR' := hR
  obtain ⟨h1, h2, h3, g, p, h4, h5⟩ := hR'
  obtain ⟨r, vc', vr', e1, e2, hc⟩ := h vc vr h2
  rcases hc with ⟨rfl, rfl⟩ | hc
  · exact ⟨r, vc', vr', e1, e2, hR, fun _ _ _ => rfl, fun _ _ _ => rfl⟩
  · obtain ⟨g', h6⟩ := chg_X h5 h2 hc
    obtain ⟨hS, f1, f2, -⟩ := hc
    refine ⟨r, vc', vr', e1, e2, ⟨RT_w h1 (f1 _ _ (by omega) (by omega)) (fun k => f1 _ _ (by omega) (by omega)) (f2 _ _ (by omega) (by omega) (by omega) (by omega) (by omega) (by omega)) (fun k => f2 _ _ (by omega) (by omega) (by omega) (by omega) (by omega) (by omega)), hS, ?_, g', p, ?_, h6⟩, fun a k q => f1 _ _ (by omega) (by omega), fun a k q => f2 _ _ (by omega) (by omega) (by omega) (by omega) (by omega) (by omega)⟩
    · exact RV_w h3 (f1 _ _ (by omega) (by omega)) (fun k => f1 _ _ (by omega) (by omega)) (f2 _ _ (by omega) (by omega) (by omega) (by omega) (by omega) (by omega)) (fun k => f2 _ _ (by omega) (by omega) (by omega) (by omega) (by omega) (by omega))
    · rw [f1 _ _ (by omega) (by omega)]; exact h4
/-- feed and back -/
theorem tw_f {fc fr : V_ → Option (Int × V_)} (h : ∀ vc vr, RT_ vc vr → ∃ r vc' vr', fc vc = some (r, vc') ∧ fr vr = some (r, vr') ∧ RT_ vc' vr' ∧ WT1_ vc vc' ∧ WT2_ vr vr') : Tw_ RX_ fc fr := fun vc vr hR => by
  obtain ⟨h1, h2, h3, g, p, h4, h5⟩ := hR
  obtain ⟨r, vc', vr', e1, e2, hT, f1, f2⟩ := h vc vr h1
  refine ⟨r, vc', vr', e1, e2, ⟨hT, RS_w h2 (fun a k _ _ => f1 _ _ (by omega) (by omega)) (fun a k q => f2 _ _ (by omega) (by omega)) (f2 _ _ (by omega) (by omega)), ?_, g, p, ?_, CX_w h5 (fun a k q => f1 _ _ (by omega) (by omega)) (fun k q => f1 _ _ (by omega) (by omega)) (fun a k q q2 => f2 _ _ (by omega) (by omega)) (fun k q => f2 _ _ (by omega) (by omega))⟩, fun a k q => f1 _ _ (by omega) (by omega), fun a k q => f2 _ _ (by omega) (by omega)⟩
  · exact RV_w h3 (f1 _ _ (by omega) (by omega)) (fun k => f1 _ _ (by omega) (by omega)) (f2 _ _ (by omega) (by omega)) (fun k => f2 _ _ (by omega) (by omega))
  · rw [f1 _ _ (by omega) (by omega)]; exact h4
theorem tw_hold (x : Int) : Tw_ RX_ (fX11_hold 1 x) (fX12_hold 814 x) := fun vc vr hR => by
  obtain ⟨h1, h2, h3, g, p, h4, h5⟩ := hR
  obtain ⟨r, vc', vr', e1, e2, hS, f1, f2⟩ := hold_T h2 x
  refine ⟨r, vc', vr', e1, e2, ⟨RT_w h1 (f1 _ _ (by omega)) (fun k => f1 _ _ (by omega)) (f2 _ _ (by omega) (by omega)) (fun k => f2 _ _ (by omega) (by omega)), hS, ?_, g, p, ?_, CX_w h5 (fun a k q => f1 _ _ (by omega)) (fun k q => f1 _ _ (by omega)) (fun a k q q2 => f2 _ _ (by omega) (by omega)) (fun k q => f2 _ _ (by omega) (by omega))⟩, fun a k q => f1 _ _ (by omega), fun a k q => f2 _ _ (by omega) (by omega)⟩
  · exact RV_w h3 (f1 _ _ (by omega)) (fun k => f1 _ _ (by omega)) (f2 _ _ (by omega) (by omega)) (fun k => f2 _ _ (by omega) (by omega))
  · rw [f1 _ _ (by omega)]; exact h4
theorem tw_run : Tw_ RX_ (fX11_run 1) (fX12_run 814) := fun vc vr hR => by
  obtain ⟨h1, h2, h3, g, p, h4, h5⟩ := hR
  obtain ⟨r, vc', vr', e1, e2, hS, z69, z11, z12, z13, f1, f2⟩ := run_Q h5 h2
  obtain ⟨g', h6⟩ := new_X h5 hS (fun a k q q2 q3 => f1 a k (by omega) q3) (fun a k q q2 => f2 a k (by omega) (by omega)) (f2 _ _ (by omega) (by omega)) ⟨z69, z11, z12, z13⟩
  refine ⟨r, vc', vr', e1, e2, ⟨RT_w h1 (f1 _ _ (by omega) (by omega)) (fun k => f1 _ _ (by omega) (by omega)) (f2 _ _ (by omega) (by omega)) (fun k => f2 _ _ (by omega) (by omega)), hS, ?_, g', p, ?_, h6⟩, fun a k q => f1 _ _ (by omega) (by omega), fun a k q => f2 _ _ (by omega) (by omega)⟩
  · exact RV_w h3 (f1 _ _ (by omega) (by omega)) (fun k => f1 _ _ (by omega) (by omega)) (f2 _ _ (by omega) (by omega)) (fun k => f2 _ _ (by omega) (by omega))
  · rw [f1 _ _ (by omega) (by omega)]; exact h4
