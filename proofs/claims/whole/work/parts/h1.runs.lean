/-! layer 2: runs that are known, and runs asked for -/
theorem slow_K {g vc vr : V_} {p : Int} (hw : WF_ g) (hC : C_ vc p g) (hp : vc 1 4 = p) (hD : D_ vr g) (hr : ∀ k, 0 ≤ k → k < 14 → vc 141 k = vr 838 k ∧ iR_ (vr 838 k)) (h12 : vc 1 12 = 0 ∨ (vc 1 12 = 1 ∧ Ksl_ g vc)) : ∃ vc', fX11_knownSlow 1 vc = some (800, vc') ∧ vc' 1 12 = 1 ∧ Ksl_ g vc' ∧ ∀ a k, ¬ (800 ≤ a ∧ a < 807) → ¬ (a = 1 ∧ k = 12) → vc' a k = vc a k := by
  unfold fX11_knownSlow
  rcases h12 with h12 | ⟨h12, hK⟩
  · obtain ⟨vc1, vr1, how, e1, -, -, f1, -⟩ := slow_T (x0 := 800) (Or.inl rfl) hw hC hD hr
    have hpp : vc 1 4 = PA_ ∨ vc 1 4 = PB_ := by rw [hp]; exact hC.1
    rw [if_pos h12, ck_t hpp]
    simp only [Int.reduceAdd]
    rw [hp, e1, bd_s, lt_d]
    have K1 : Ksl_ g vc1 := fun vr2 hD2 hr2 => by
      have e41 : ∀ k, vc1 141 k = vc 141 k := fun k => f1 _ _ (by omega)
      obtain ⟨vc2, vr3, how3, d1, d2, d3, -, d5⟩ := slow_T (x0 := 800) (vc := vc) (vr := vr2) (Or.inl rfl) hw hC hD2 (fun k k0 k1 => by
        have q := hr2 k k0 k1
        rw [e41] at q
        refine ⟨q, ?_⟩
        rw [← q, (hr k k0 k1).1]
        exact (hr k k0 k1).2)
      have ec : vc2 = vc1 := (Prod.mk.inj (Option.some.inj (d1.symm.trans e1))).2
      rw [ec] at d3
      exact ⟨how3, vr3, d2, d3, d5⟩
    refine ⟨_, rfl, up_s ⟨rfl, rfl⟩, Ksl_fr K1 (fun k _ _ => up_n (by omega)) (fun a k q q2 => up_n (by omega)), fun a k q q2 => ?_⟩
    rw [up_n (by omega)]
    exact f1 a k (by omega)
  · rw [if_neg (show ¬ vc 1 12 = 0 by omega)]
    exact ⟨vc, rfl, h12, hK, fun _ _ _ _ => rfl⟩
theorem fast_K {g vc vr vc1 vr1 : V_} {p : Int} (hp : vc 1 4 = p) (hH : HP_ g p vc vr vc1 vr1) (hr : ∀ k, 0 ≤ k → k < 14 → vc1 141 k = vr1 838 k ∧ iR_ (vr1 838 k)) (h13 : vc 1 13 = 0 ∨ (vc 1 13 = 1 ∧ vc1 = vc ∧ Kfa_ g p vc)) : ∃ vc2, fX11_knownFast 1 vc = some (807, vc2) ∧ vc2 1 13 = 1 ∧ Kfa_ g p vc2 ∧ ∀ a k, ¬ (807 ≤ a ∧ a < 814) → ¬ (a = 1 ∧ k = 13) → vc2 a k = vc1 a k := by
  obtain ⟨e0, -, hP, hw, hg, hC, hp1, hD⟩ := hH
  have hpb : p = 12 ∨ p = 76 := hC.1
  unfold fX11_knownFast
  rcases h13 with h13 | ⟨h13, rfl, hK⟩
  · obtain ⟨vc2, vr2, how, e1, -, -, f1, -⟩ := fast_T hw hg hC hD hP hr
    have hpp : vc 1 4 = PA_ ∨ vc 1 4 = PB_ := by rw [hp]; exact hC.1
    rw [if_pos h13, ck_t hpp, e0, bd_s]
    simp only [Int.reduceAdd]
    rw [hp, e1, bd_s, lt_d]
    have f1' : ∀ a k, a < 807 ∨ 814 ≤ a → vc2 a k = vc1 a k := f1
    have K1 : Kfa_ g p vc2 := fun vr2 hD2 hP2 hr2 => by
      have e41 : ∀ k, vc2 141 k = vc1 141 k := fun k => f1' _ _ (by omega)
      have C2 : C_ vc2 p g := C_fr hw hC (fun a k a0 a1 => f1' _ _ (by omega)) (fun k _ _ => f1' _ _ (by omega))
      have hP3 : PL_ g p vc1 vr2 := PL_fr hw C2 hD2 hD2 hP2 (fun a k q q2 _ => (f1' a k (by omega)).symm) (fun k => (f1' _ k (by omega)).symm) (fun _ _ _ _ => rfl) rfl
      obtain ⟨vc3, vr3, how3, d1, d2, d3, -, d5⟩ := fast_T hw hg hC hD2 hP3 (fun k k0 k1 => by
        have q := hr2 k k0 k1
        rw [e41] at q
        refine ⟨q, ?_⟩
        rw [← q, (hr k k0 k1).1]
        exact (hr k k0 k1).2)
      have ec : vc3 = vc2 := (Prod.mk.inj (Option.some.inj (d1.symm.trans e1))).2
      rw [ec] at d3
      exact ⟨how3, vr3, d2, d3, d5⟩
    have C3 : C_ (up_ vc2 1 13 1) p g := C_fr hw hC (fun a k a0 a1 => (up_n (by omega)).trans (f1' _ _ (by omega))) (fun k _ _ => (up_n (by omega)).trans (f1' _ _ (by omega)))
    refine ⟨_, rfl, up_s ⟨rfl, rfl⟩, Kfa_fr hw C3 K1 (fun k _ _ => up_n (by omega)) (fun a k q q2 => up_n (by omega)) (fun a k q q2 _ => up_n (by omega)) (fun k => up_n (by omega)), fun a k q q2 => ?_⟩
    rw [up_n (by omega)]
    exact f1' a k (by omega)
  · rw [if_neg (show ¬ vc1 1 13 = 0 by omega)]
    exact ⟨vc1, rfl, h13, hK, fun _ _ _ _ => rfl⟩
