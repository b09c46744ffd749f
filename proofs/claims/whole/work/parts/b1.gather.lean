/-! layer 2: a line's items -/
theorem LS_fr {vr wr : V_} {t j r : Int} (h : LS_ vr t j r) (e : ∀ i, 0 ≤ i → i < j → wr 849 (34 * t + i) = vr 849 (34 * t + i)) : LS_ wr t j r := by
  rcases h with ⟨h1, h2⟩ | ⟨h1, h2, h3, h4⟩
  · exact Or.inl ⟨h1, fun i i0 i1 => by rw [e i i0 i1]; exact h2 i i0 i1⟩
  · exact Or.inr ⟨h1, h2, by rw [e r h1 h2]; exact h3, fun i i0 i1 => by rw [e i (by omega) i1]; exact h4 i i0 i1⟩
theorem LS_step {vr : V_} {t m r : Int} (h : LS_ vr t m r) (h0 : 0 ≤ m) : LS_ vr t (m + 1) (if vr 849 (34 * t + m) = 2 then m else r) := by
  by_cases c : vr 849 (34 * t + m) = 2
  · rw [if_pos c]
    exact Or.inr ⟨h0, by omega, c, fun i i0 i1 => by omega⟩
  · rw [if_neg c]
    rcases h with ⟨h1, h2⟩ | ⟨h1, h2, h3, h4⟩
    · refine Or.inl ⟨h1, fun i i0 i1 => ?_⟩
      by_cases e : i = m
      · rw [e]; exact c
      · exact h2 i i0 (by omega)
    · refine Or.inr ⟨h1, by omega, h3, fun i i0 i1 => ?_⟩
      by_cases e : i = m
      · rw [e]; exact c
      · exact h4 i i0 (by omega)
/-- one item more -/
theorem GI_add {g : V_} {L : Int → Int} {t m q q' : Int} {vc vr wc wr : V_} (h : GI_ g L t m q vc vr) (hL : ∀ b, 0 ≤ b → b < g 0 0 → r6_ (L b)) (a1 : wc (200 + 75 * t) 3 = m + 1) (a2 : wr 848 t = m + 1) (a3 : m + 1 ≤ q' + wr 860 t) (a4 : wc (200 + 75 * t) 5 = wr 860 t ∧ 0 ≤ wr 860 t ∧ wr 860 t ≤ 6) (a5 : ∀ r, 0 ≤ r → r < 6 → wc (205 + 75 * t) r = wr 861 r ∧ 0 ≤ wr 861 r ∧ wr 861 r < 12) (f1 : ∀ j k, 0 ≤ j → j < m → wc (207 + 75 * t + 2 * j) k = vc (207 + 75 * t + 2 * j) k ∧ wc (208 + 75 * t + 2 * j) k = vc (208 + 75 * t + 2 * j) k) (f2 : ∀ a j, 849 ≤ a → a ≤ 857 → 0 ≤ j → j < m → wr a (34 * t + j) = vr a (34 * t + j)) (b1 : IE_ g wc (207 + 75 * t + 2 * m) wr (34 * t + m)) (b2 : wc (207 + 75 * t + 2 * m) 8 = 0) (b3 : wc (207 + 75 * t + 2 * m) 6 = vc (200 + 75 * t) 16) (b4 : wr 849 (34 * t + m) ≠ 3) (c1 : wc (200 + 75 * t) 16 = if wr 849 (34 * t + m) = 2 then m else vc (200 + 75 * t) 16) (c2 : wc (200 + 75 * t) 17 = if wr 849 (34 * t + m) = 2 then bO_ (vc (200 + 75 * t) 17) (L (g 10 (2 * wr 850 (34 * t + m) + wr 857 (34 * t + m)))) else vc (200 + 75 * t) 17) (c3 : wc (200 + 75 * t) 4 = vc (200 + 75 * t) 4 + sp_ wr t m) : GI_ g L t (m + 1) q' wc wr := by
  obtain ⟨⟨h1, h2, h3, h4⟩, h5, h6, h7, ⟨h8, h9⟩, h10, h11⟩ := h
  have hoff : wr 849 (34 * t + m) = 2 → r6_ (L (g 10 (2 * wr 850 (34 * t + m) + wr 857 (34 * t + m)))) := fun e => by
    obtain ⟨-, -, -, -, -, -, -, -, o⟩ := b1
    rcases o with ⟨o, -⟩ | ⟨o, -⟩ | ⟨-, -, -, -, -, -, -, o1, o2, o3⟩ | ⟨o, -⟩
    · omega
    · omega
    · rw [o1] at o2 o3
      exact hL _ o2 o3
    · omega
  refine ⟨⟨a1, a2, by omega, a3⟩, a4, a5, fun j j0 j1 => ?_, ⟨?_, ?_⟩, ?_, fun r r0 r1 => ?_⟩
  · by_cases e : j = m
    · rw [e]
      refine ⟨b1, b2, ?_, b4⟩
      rw [b3]
      exact LS_fr h8 fun i i0 i1 => f2 849 i (by decide) (by decide) i0 i1
    · obtain ⟨x1, x2, x3, x4⟩ := h7 j j0 (by omega)
      have F := fun k => f1 j k j0 (by omega)
      refine ⟨IE_fr x1 ⟨(F 1).1, (F 2).1, (F 4).1, (F 5).1⟩ (fun k => ?_) (fun a a0 a1 => f2 a j a0 a1 j0 (by omega)), by rw [(F 8).1]; exact x2, ?_, by rw [f2 849 j (by decide) (by decide) j0 (by omega)]; exact x4⟩
      · rw [show 207 + 75 * t + 2 * j + 1 = 208 + 75 * t + 2 * j by omega]
        exact (F k).2
      · rw [(F 6).1]
        exact LS_fr x3 fun i i0 i1 => f2 849 i (by decide) (by decide) i0 (by omega)
  · rw [c1]
    exact LS_step (LS_fr h8 fun i i0 i1 => f2 849 i (by decide) (by decide) i0 i1) h3
  · rw [c3, h9, show (m + 1).toNat = m.toNat + 1 by omega]
    simp only [ct_]
    rw [ct_congr (f := sp_ wr t) (h := sp_ vr t) m.toNat fun i i0 i1 => by unfold sp_; rw [f2 849 i (by decide) (by decide) i0 (by omega)], show ((m.toNat : Nat) : Int) = m by omega]
  · rw [c2]
    by_cases e : wr 849 (34 * t + m) = 2
    · rw [if_pos e]
      exact bO_64 h10 (hoff e)
    · rw [if_neg e]
      exact h10
  · have keep : (∃ j, 0 ≤ j ∧ j < m ∧ wr 849 (34 * t + j) = 2 ∧ bt_ (L (g 10 (2 * wr 850 (34 * t + j) + wr 857 (34 * t + j)))) r = true) ↔ ∃ j, 0 ≤ j ∧ j < m ∧ vr 849 (34 * t + j) = 2 ∧ bt_ (L (g 10 (2 * vr 850 (34 * t + j) + vr 857 (34 * t + j)))) r = true := by
      constructor
      · rintro ⟨j, j0, j1, j2, j3⟩
        rw [f2 849 j (by decide) (by decide) j0 j1] at j2
        rw [f2 850 j (by decide) (by decide) j0 j1, f2 857 j (by decide) (by decide) j0 j1] at j3
        exact ⟨j, j0, j1, j2, j3⟩
      · rintro ⟨j, j0, j1, j2, j3⟩
        refine ⟨j, j0, j1, ?_, ?_⟩
        · rw [f2 849 j (by decide) (by decide) j0 j1]; exact j2
        · rw [f2 850 j (by decide) (by decide) j0 j1, f2 857 j (by decide) (by decide) j0 j1]; exact j3
    have last : (∃ j, 0 ≤ j ∧ j < m + 1 ∧ wr 849 (34 * t + j) = 2 ∧ bt_ (L (g 10 (2 * wr 850 (34 * t + j) + wr 857 (34 * t + j)))) r = true) ↔ ((∃ j, 0 ≤ j ∧ j < m ∧ wr 849 (34 * t + j) = 2 ∧ bt_ (L (g 10 (2 * wr 850 (34 * t + j) + wr 857 (34 * t + j)))) r = true) ∨ (wr 849 (34 * t + m) = 2 ∧ bt_ (L (g 10 (2 * wr 850 (34 * t + m) + wr 857 (34 * t + m)))) r = true)) := by
      constructor
      · rintro ⟨j, j0, j1, j2, j3⟩
        by_cases e : j = m
        · rw [e] at j2 j3
          exact Or.inr ⟨j2, j3⟩
        · exact Or.inl ⟨j, j0, by omega, j2, j3⟩
      · rintro (⟨j, j0, j1, j2, j3⟩ | ⟨j2, j3⟩)
        · exact ⟨j, j0, by omega, j2, j3⟩
        · exact ⟨m, h3, by omega, j2, j3⟩
    rw [last, keep, ← h11 r r0 r1, c2]
    by_cases e : wr 849 (34 * t + m) = 2
    · have h12 := hoff e
      unfold r6_ at h12
      rw [if_pos e, (bO_e (by omega) (by omega)).2, Bool.or_eq_true]
      constructor
      · rintro (o | o)
        · exact Or.inl o
        · exact Or.inr ⟨e, o⟩
      · rintro (o | o)
        · exact Or.inl o
        · exact Or.inr o.2
    · rw [if_neg e]
      constructor
      · exact fun o => Or.inl o
      · rintro (o | o)
        · exact o
        · exact absurd o.1 e
section LINEI
variable {g vc vr : V_} {L : Int → Int} {t m q p b i : Int}
theorem cline_pre (hw : WF_ g) (hC : C_ vc p g) (ht : 0 ≤ t ∧ t < 8) (h : GI_ g L t m q vc vr) (hm : m < 34) (hb : 0 ≤ b ∧ b < g 0 0) (hi : 0 ≤ i ∧ i < g 1 b) (f : Int) : ∃ w, fX10_addLine (200 + 75 * t) (p + 8 + (6 * b + i)) b f vc = (if 0 ≤ g 4 (6 * b + i) then (if f = 0 then fX10_addLine_138 (200 + 75 * t) (g 4 (6 * b + i)) w else (if 6 ≤ w (200 + 75 * t) 5 then fX10_addLine_138 (200 + 75 * t) (g 4 (6 * b + i)) w else (if bA_ (sR_ (w (200 + 75 * t) 17) (g 4 (6 * b + i))) 1 = 1 then (lt_ (wr_ (6 + w (200 + 75 * t) 5)) fun y15 => lt_ (up_ w (208 + 75 * t + 2 * m) 1 y15) fun v17 => ck_ (0 ≤ g 4 (6 * b + i) ∧ g 4 (6 * b + i) < 6) (lt_ (up_ v17 (200 + 75 * t + 5) (g 4 (6 * b + i)) y15) fun v20 => lt_ (up_ v20 (200 + 75 * t) 5 (wr_ (v20 (200 + 75 * t) 5 + 1))) fun v21 => bd_ (fX10_addItem (200 + 75 * t) 1 b v21) fun q22 => bd_ (fX8_tell (q22.1 + 1) 6 (g 4 (6 * b + i)) (bX_ y15 (-1)) 0 q22.2) fun q25 => some (0, q25.2))) else fX10_addLine_138 (200 + 75 * t) (g 4 (6 * b + i)) w))) else some (0, w)) ∧ w (200 + 75 * t) 3 = m + 1 ∧ w (207 + 75 * t + 2 * m) 1 = 0 ∧ w (207 + 75 * t + 2 * m) 2 = b ∧ w (207 + 75 * t + 2 * m) 4 = -2 ∧ w (207 + 75 * t + 2 * m) 5 = -2 ∧ w (207 + 75 * t + 2 * m) 6 = vc (200 + 75 * t) 16 ∧ w (207 + 75 * t + 2 * m) 8 = 0 ∧ SL_ w (208 + 75 * t + 2 * m) (g 2 (6 * b + i)) (g 3 (6 * b + i)) (g 4 (6 * b + i)) (if g 5 (6 * b + i) < 6 then vr 861 (g 5 (6 * b + i)) else g 5 (6 * b + i)) (if g 6 (6 * b + i) < 6 then vr 861 (g 6 (6 * b + i)) else g 6 (6 * b + i)) ∧ ∀ a k, ¬ (a = 200 + 75 * t ∧ k = 3) → a ≠ 207 + 75 * t + 2 * m → a ≠ 208 + 75 * t + 2 * m → w a k = vc a k := by
  have hn := hw.1
  obtain ⟨-, -, hln⟩ := hw.2 b hb.1 hb.2
  have hl6 := (hw.2 b hb.1 hb.2).1
  obtain ⟨l1, l2, l3⟩ := LN_r (hln i hi.1 hi.2)
  obtain ⟨-, -, -, -, e5⟩ := hC.2.2.1 b hb.1 hb.2
  obtain ⟨s0, s1, s2, s3⟩ := e5 i hi.1 hi.2
  have hp := hC.1
  obtain ⟨⟨h1, h2, h3, h4⟩, h5, h6, -⟩ := h
  obtain ⟨u, e, u1, u2, u3, u4, u5, u6, u7, u8⟩ := cadd_e (s := 0) (b := b) ht h1 ⟨h3, hm⟩
  have y : ∀ k, u (p + 8 + (6 * b + i)) k = vc (p + 8 + (6 * b + i)) k := fun k => u8 _ _ (by omega) (by omega)
  have r5 : ∀ r, 0 ≤ r → r < 6 → u (205 + 75 * t) r = vr 861 r := fun r r0 r1 => (u8 _ _ (by omega) (by omega)).trans (h6 r r0 r1).1
  have r6 : ∀ r, 0 ≤ r → r < 6 → 0 ≤ u (205 + 75 * t) r ∧ u (205 + 75 * t) r < 12 := fun r r0 r1 => by rw [r5 r r0 r1]; exact (h6 r r0 r1).2
  have as : ∀ a, VR_ a → (if a < 6 then u (205 + 75 * t) a else a) = if a < 6 then vr 861 a else a := fun a ha => by
    unfold VR_ at ha
    by_cases c : a < 6
    · rw [if_pos c, if_pos c, r5 a (by omega) c]
    · rw [if_neg c, if_neg c]
  unfold fX10_addLine
  rw [e, bd_s]
  try dsimp only
  rw [y 1, y 2, s1, s2, lt_d, asread_e l2 r6, bd_s]
  try dsimp only
  rw [y 3, s3, asread_e l3 r6, bd_s]
  try dsimp only
  rw [as _ l2, as _ l3, y 0, s0, show 207 + 75 * t + 2 * m + 1 = 208 + 75 * t + 2 * m by omega]
  obtain ⟨w, e2, w0, w1, w2, w3, w4⟩ := tell_e (208 + 75 * t + 2 * m) (opc_ (g 2 (6 * b + i)) (g 3 (6 * b + i))) (g 4 (6 * b + i)) (vl_ (if g 5 (6 * b + i) < 6 then vr 861 (g 5 (6 * b + i)) else g 5 (6 * b + i))) (vl_ (if g 6 (6 * b + i) < 6 then vr 861 (g 6 (6 * b + i)) else g 6 (6 * b + i))) u
  rw [e2, bd_s]
  try dsimp only
  refine ⟨w, rfl, ?_, ?_, ?_, ?_, ?_, ?_, ?_, ⟨w0, w1, w2, w3⟩, fun a k q1 q2 q3 => (w4 _ _ q3).trans (u8 _ _ q1 q2)⟩ <;> rw [w4 _ _ (by omega)] <;> assumption
theorem rline_pre (hw : WF_ g) (hD : D_ vr g) (ht : 0 ≤ t ∧ t < 8) (h : GI_ g L t m q vc vr) (hm : m < 34) (hb : 0 ≤ b ∧ b < g 0 0) (hi : 0 ≤ i ∧ i < g 1 b) (r s : Int) : ∃ w, fX12_addsLine_50 814 t b (48 * vr 814 18 + (6 * b + i)) r s vr = fX12_addsLine_158 814 t b r s (34 * t + m) 854 (34 * t + m) (if s = 0 then r else 6 + vr 860 t) w ∧ w 848 t = m + 1 ∧ w 849 (34 * t + m) = 0 ∧ w 850 (34 * t + m) = b ∧ w 851 (34 * t + m) = kn_ (g 2 (6 * b + i)) (g 3 (6 * b + i)) ∧ w 852 (34 * t + m) = g 2 (6 * b + i) ∧ w 853 (34 * t + m) = g 3 (6 * b + i) ∧ w 855 (34 * t + m) = (if g 5 (6 * b + i) < 6 then vr 861 (g 5 (6 * b + i)) else g 5 (6 * b + i)) ∧ w 856 (34 * t + m) = (if g 6 (6 * b + i) < 6 then vr 861 (g 6 (6 * b + i)) else g 6 (6 * b + i)) ∧ w 857 (34 * t + m) = -1 ∧ (∀ a k, ¬ (848 ≤ a ∧ a ≤ 857) → w a k = vr a k) ∧ (∀ a k, k ≠ 34 * t + m → 849 ≤ a → a ≤ 857 → w a k = vr a k) ∧ ∀ k, k ≠ t → w 848 k = vr 848 k := by
  have hn := hw.1
  obtain ⟨-, -, hln⟩ := hw.2 b hb.1 hb.2
  have hl6 := (hw.2 b hb.1 hb.2).1
  obtain ⟨l1, l2, l3⟩ := LN_r (hln i hi.1 hi.2)
  have hs0 := hD.1
  obtain ⟨⟨h1, h2, h3, h4⟩, ⟨h5, h5a, h5b⟩, h6, -⟩ := h
  obtain ⟨u, e, u1, u2, u3, u4, u5, u6, u7, u8, u9, u10, u11, u12⟩ := radd_e (s := 0) (b := b) ht h2 ⟨h3, hm⟩
  have hD1 : D_ u g := D_fr hD (u10 _ _ (by omega)) (fun a k a0 a1 => u10 _ _ (by omega)) (fun k _ _ => u10 _ _ (by omega))
  have l18 : vr 814 18 = u 814 18 := (u10 _ _ (by omega)).symm
  unfold fX12_addsLine_50
  rw [e, bd_s]
  try dsimp only
  have dd := hD1.2.2.2.1 (6 * b + i) (by omega) (by omega)
  rw [l18, kindOf_e hD1 (by omega), bd_s]
  try dsimp only [Int.reduceAdd]
  rw [← l18] at dd ⊢
  have K : ∀ {α : Type} (x : Option α), ck_ (0 ≤ 34 * t + m ∧ 34 * t + m < 272) x = x := fun x => ck_t (by omega)
  have K2 : ∀ {α : Type} (x : Option α), ck_ (0 ≤ 48 * vr 814 18 + (6 * b + i) ∧ 48 * vr 814 18 + (6 * b + i) < 96) x = x := fun x => ck_t (by omega)
  simp only [K, K2, lt_d, Int.reduceAdd]
  rw [show ∀ x : Int, up_ u 851 (34 * t + m) x 827 (48 * vr 814 18 + (6 * b + i)) = g 2 (6 * b + i) from fun x => (up_n (by omega)).trans dd.1]
  rw [show ∀ x y : Int, up_ (up_ u 851 (34 * t + m) x) 852 (34 * t + m) y 828 (48 * vr 814 18 + (6 * b + i)) = g 3 (6 * b + i) from fun x y => by rw [up_n (by omega), up_n (by omega)]; exact dd.2.1]
  generalize ez : up_ (up_ (up_ u 851 (34 * t + m) (kn_ (g 2 (6 * b + i)) (g 3 (6 * b + i)))) 852 (34 * t + m) (g 2 (6 * b + i))) 853 (34 * t + m) (g 3 (6 * b + i)) = z
  have zo : ∀ a k, ¬ (851 ≤ a ∧ a ≤ 853 ∧ k = 34 * t + m) → z a k = u a k := fun a k n => by rw [← ez, up_n (by omega), up_n (by omega), up_n (by omega)]
  have z1 : z 851 (34 * t + m) = kn_ (g 2 (6 * b + i)) (g 3 (6 * b + i)) ∧ z 852 (34 * t + m) = g 2 (6 * b + i) ∧ z 853 (34 * t + m) = g 3 (6 * b + i) := by
    rw [← ez]
    simp (disch := omega) only [up_s, up_n, and_self]
  clear ez
  rw [zo 830 _ (by omega), dd.2.2.2.1, readas_e l2, bd_s]
  try dsimp only
  rw [up_n (show ¬ ((831 : Int) = 855 ∧ _) by omega), zo 831 _ (by omega), dd.2.2.2.2, readas_e l3, bd_s]
  try dsimp only
  have e61 : ∀ k, z 861 k = vr 861 k := fun k => (zo _ _ (by omega)).trans (u10 _ _ (by omega))
  have e61b : ∀ x k, up_ z 855 (34 * t + m) x 861 k = vr 861 k := fun x k => (up_n (by omega)).trans (e61 k)
  simp only [e61, e61b]
  generalize eA : (if g 5 (6 * b + i) < 6 then vr 861 (g 5 (6 * b + i)) else g 5 (6 * b + i)) = A
  generalize eB : (if g 6 (6 * b + i) < 6 then vr 861 (g 6 (6 * b + i)) else g 6 (6 * b + i)) = B
  have e60 : up_ (up_ z 855 (34 * t + m) A) 856 (34 * t + m) B 860 t = vr 860 t := by rw [up_n (by omega), up_n (by omega), zo _ _ (by omega), u10 _ _ (by omega)]
  refine ⟨up_ (up_ z 855 (34 * t + m) A) 856 (34 * t + m) B, ?_, ?_, ?_, ?_, ?_, ?_, ?_, ?_, ?_, ?_, fun a k q1 => ?_, fun a k q1 q2 q3 => ?_, fun k q1 => ?_⟩
  · by_cases c : s = 0
    · rw [if_pos c, if_pos c]
    · rw [if_neg c, if_neg c, ck_t ht, e60, wr_id (by omega)]
  · rw [up_n (by omega), up_n (by omega), zo _ _ (by omega)]; exact u1
  · rw [up_n (by omega), up_n (by omega), zo _ _ (by omega)]; exact u2
  · rw [up_n (by omega), up_n (by omega), zo _ _ (by omega)]; exact u3
  · rw [up_n (by omega), up_n (by omega)]; exact z1.1
  · rw [up_n (by omega), up_n (by omega)]; exact z1.2.1
  · rw [up_n (by omega), up_n (by omega)]; exact z1.2.2
  · rw [up_n (by omega), up_s ⟨rfl, rfl⟩]
  · rw [up_s ⟨rfl, rfl⟩]
  · rw [up_n (by omega), up_n (by omega), zo _ _ (by omega)]; exact u9
  · rw [up_n (by omega), up_n (by omega), zo _ _ (by omega)]; exact u10 a k q1
  · rw [up_n (by omega), up_n (by omega), zo _ _ (by omega)]; exact u11 a k q1 q2 q3
  · rw [up_n (by omega), up_n (by omega), zo _ _ (by omega)]; exact u12 k q1
end LINEI
