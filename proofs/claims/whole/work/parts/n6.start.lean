/-! layer 2: the start: both new, and the relation holds -/
theorem in0_ok : In0_ RX_ := by
  have t20 : ty_ 1 < 20 := by decide +kernel
  obtain ⟨w, e, wC, wM, w21, r0, r38, rt, w23, w71⟩ := X12_T (bg_ (px_ c11_ f11_ (fun _ _ => 0) 1 813) 12)
  refine ⟨_, (0, w), X11_1 (fun _ _ => 0), e, ?_, ?_⟩
  · -- all static references stand
    show St_ FD_ w
    refine St_iv _ fun a ha k o ho => ?_
    have ha' : 0 < a ∧ a < 873 := ha
    by_cases h : a < 814
    · rw [wC a k h]
      by_cases h141 : a = 141
      · exfalso
        have t : ty_ a = 20 := by rw [h141]; decide +kernel
        unfold of_ ofA_ at ho
        rw [if_neg (by omega)] at ho
        split at ho
        · cases ho
        · rw [if_neg (by omega), if_neg (by omega), if_neg (by omega), if_neg (by omega)] at ho
          cases ho
      · rw [bg_o h141]
        unfold px_
        by_cases h1 : a = 1
        · rw [if_pos h1]
          rw [h1] at ho
          have t1 : ty_ 1 = 11 ∧ ln_ 1 = 0 := by decide +kernel
          have e1 : iv_ 1 (k : Int) = 1 + o := iv_some t20 (by omega) (by
            rw [show ((k : Nat) : Int).toNat = k by omega]
            unfold of_ at ho
            rw [if_pos t20] at ho
            exact ho)
          have m : 0 < o ∧ o ≤ 806 := by
            unfold of_ at ho
            rw [if_pos t20, t1.1] at ho
            exact ofO_mx ho
          rw [if_pos (by rw [e1]; omega), h1]
        · rw [if_neg h1, if_pos (by omega)]
          by_cases h2 : a = 5 ∨ a = 18 ∨ a = 82 ∨ a = 19 ∨ a = 83
          · exfalso
            have t : 20 ≤ ty_ a ∧ ty_ a < 24 := by
              rcases h2 with rfl | rfl | rfl | rfl | rfl <;> decide +kernel
            unfold of_ ofA_ at ho
            rw [if_neg (by omega)] at ho
            split at ho
            · cases ho
            · rw [if_neg (by omega), if_neg (by omega), if_neg (by omega), if_neg (by omega)] at ho
              cases ho
          · exact c11_p (by omega) (by omega) (by omega) k
    · have S := Sc12 (u := w) wM
      have s1 := S.2 a (by omega) k o ho
      rw [s1]
      unfold iv_
      rw [if_pos (by omega), show ((k : Nat) : Int).toNat = k by omega, ho]
  · -- the relation
    show RX_ w w
    have D : ∀ k, w 1 k = px_ c11_ f11_ (fun _ _ => 0) 1 813 1 k := fun k => (wC _ _ (by decide)).trans (bg_o (by decide))
    have P : ∀ a k, 1 < a → a < 814 → a ≠ 141 → w a k = c11_ a k := fun a k k1 k2 k3 => by
      rw [wC _ _ k2, bg_o k3]
      unfold px_
      rw [if_neg (by omega), if_pos (by omega)]
    have P' : ∀ a k, 1 < a → a < 814 → a ≠ 141 → a ≠ 5 → ¬ (a = 18 ∨ a = 82) → ¬ (a = 19 ∨ a = 83) → w a k = iv_ a k := fun a k k1 k2 k3 k4 k5 k6 => (P a k k1 k2 k3).trans (c11_p k4 k5 k6 k)
    have d : ∀ k y, iv_ 1 k = 0 → f11_ k = y → w 1 k = y := fun k y h h2 => by
      rw [D]
      unfold px_
      rw [if_pos rfl, h, if_neg (by decide)]
      exact h2
    have d1 := d 1 0 (by decide +kernel) (by decide)
    have d2 := d 2 (-1) (by decide +kernel) (by decide)
    have d4 := d 4 12 (by decide +kernel) (by decide)
    have d5 := d 5 76 (by decide +kernel) (by decide)
    have d11 := d 11 0 (by decide +kernel) (by decide)
    have d12 := d 12 0 (by decide +kernel) (by decide)
    have d13 := d 13 0 (by decide +kernel) (by decide)
    have m : ∀ k y, iv_ 814 k = 0 → (if k = 17 then (-1 : Int) else 0) = y → w 814 k = y := fun k y h h2 => by
      rw [wM]
      unfold px_
      rw [if_pos rfl, h, if_neg (by decide)]
      exact h2
    have m2 := m 2 0 (by decide +kernel) (by decide)
    have m17 := m 17 (-1) (by decide +kernel) (by decide)
    have m18 := m 18 0 (by decide +kernel) (by decide)
    have m69 := m 69 0 (by decide +kernel) (by decide)
    have m77 := m 77 0 (by decide +kernel) (by decide)
    have c423 : w 142 3 = 0 := (P' _ _ (by decide) (by decide) (by decide) (by decide) (by decide) (by decide)).trans (by decide +kernel)
    have c424 : w 142 4 = 0 := (P' _ _ (by decide) (by decide) (by decide) (by decide) (by decide) (by decide)).trans (by decide +kernel)
    have c120 : w 12 0 = 0 := (P' _ _ (by decide) (by decide) (by decide) (by decide) (by decide) (by decide)).trans (by decide +kernel)
    have t188 : 20 ≤ ty_ 188 ∧ ty_ 188 < 24 := by decide +kernel
    have c188 : ∀ k, w 188 k = 0 := fun k => (P' _ _ (by decide) (by decide) (by decide) (by decide) (by decide) (by decide)).trans (iv_arr t188)
    obtain ⟨n1, n2, n3⟩ := bg_i (v := px_ c11_ f11_ (fun _ _ => 0) 1 813) (p := 12) (Or.inl rfl)
    have N : ∀ k, w 141 k = bg_ (px_ c11_ f11_ (fun _ _ => 0) 1 813) 12 141 k := fun k => wC _ _ (by decide)
    have u18 : ∀ t, 0 ≤ t → t < 4 → px_ c11_ f11_ (fun _ _ => 0) 1 813 18 t = 1 ∧ px_ c11_ f11_ (fun _ _ => 0) 1 813 19 t = lq4_ t := fun t t0 t1 => by
      unfold px_ c11_
      rw [if_neg (by decide), if_pos (by decide), if_neg (by decide), if_pos ⟨Or.inl rfl, t0, t1⟩, if_neg (by decide), if_pos (by decide), if_neg (by decide), if_neg (by omega), if_pos ⟨Or.inl rfl, t0, t1⟩]
      exact ⟨rfl, rfl⟩
    have N3 : ∀ t, 0 ≤ t → t < 4 → w 141 (38 + t) = 1 ∧ w 141 (42 + t) = lq4_ t := fun t t0 t1 => by
      rw [N, N, (n3 t t0 t1).1, (n3 t t0 t1).2]
      exact u18 t t0 t1
    have HW : RW_ w 141 w 837 0 := RW_new ((N 46).trans n1) (fun k k0 k1 => (N k).trans (n2 k k0 k1)) r0 r38 fun t t0 t1 => by
      rw [(N3 t t0 t1).1, (N3 t t0 t1).2, (rt t t0 t1).1, (rt t t0 t1).2]
      refine ⟨rfl, rfl, by decide, ?_⟩
      unfold lq4_
      split
      · decide
      · split <;> decide
    have G := gn_G (pgm_ w 0) (w 837)
    have g0 : pgm_ w 0 0 0 = 0 := w23
    have PW : WF_ (pgm_ w 0) := ⟨by rw [g0]; decide, fun b b0 b1 => by rw [g0] at b1; omega⟩
    have LW : LF_ (pgm_ w 0) (w (12 + 5)) := ⟨⟨fun b b0 b1 => by rw [g0] at b1; omega, fun b b0 b1 => by rw [g0] at b1; omega⟩, fun M _ b b0 b1 => by rw [g0] at b1; omega⟩
    refine ⟨?_, ⟨HW, ?_, ?_⟩, ⟨d2.trans m17.symm, fun k k0 k1 => ⟨?_, w21 k k0 k1⟩⟩, gw_' (pgm_ w 0) (w 837), 12, d5, WF_new PW G, RG_row HW, ?_, d4, LF_new LW G, ?_, fun k k0 k1 => ⟨?_, HW.1.2.1 k k0 k1⟩, Or.inl d11, Or.inl m69, Or.inl d12, Or.inl d13⟩
    · exact ⟨by rw [d1]; decide, by rw [d1, m2], fun k k0 k1 => by omega⟩
    · exact ⟨by rw [c424]; decide, by rw [c423]; decide, by rw [m77, c424], fun x x0 x1 => by omega⟩
    · exact fun x x0 x1 => ⟨Or.inl (c188 x), by rw [w71, c188], fun z => by rw [c188] at z; cases z⟩
    · have h5 := P 5 k (by decide) (by decide) (by decide)
      rw [h5]
      unfold c11_
      rw [if_pos rfl]
      have := ws_e k.toNat (by omega)
      rw [show ((k.toNat : Nat) : Int) = k by omega] at this
      exact this
    · unfold C_
      rw [G 0 (by decide)]
      refine ⟨Or.inl rfl, by rw [g0]; exact c120, fun b b0 b1 => by rw [g0] at b1; omega, fun k k0 k1 => ?_⟩
      have := HW.2 k (by omega) k1
      rw [Int.zero_add] at this
      rw [show gw_' (pgm_ w 0) (w 837) 11 (pm_ k) = w 837 (pm_ k) from if_pos rfl]
      exact this.symm
    · have e18 : cp_ w 837 0 838 0 47 814 18 = 0 := by rw [cp_o (by omega)]; exact m18
      have eo : ∀ a k, 823 ≤ a → a ≤ 835 → cp_ w 837 0 838 0 47 a k = w a k := fun a k k1 k2 => cp_o (by omega)
      unfold D_
      rw [e18, G 0 (by decide), G 1 (by decide), G 2 (by decide), G 3 (by decide), G 4 (by decide), G 5 (by decide), G 6 (by decide), G 7 (by decide), G 8 (by decide), G 9 (by decide), G 10 (by decide)]
      refine ⟨by decide, eo _ _ (by decide) (by decide), fun k k0 k1 => ⟨eo _ _ (by decide) (by decide), eo _ _ (by decide) (by decide), eo _ _ (by decide) (by decide), eo _ _ (by decide) (by decide)⟩, fun k k0 k1 => ⟨eo _ _ (by decide) (by decide), eo _ _ (by decide) (by decide), eo _ _ (by decide) (by decide), eo _ _ (by decide) (by decide), eo _ _ (by decide) (by decide)⟩, fun k k0 k1 => eo _ _ (by decide) (by decide), fun k k0 k1 => ?_⟩
      rw [cp38 _ (by omega) k1]
      exact (if_pos rfl).symm
    · have := HW.2 k k0 (by omega)
      rw [Int.zero_add, show pm_ k = k from if_pos (by omega)] at this
      exact this
