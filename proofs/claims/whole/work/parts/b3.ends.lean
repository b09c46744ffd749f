/-! layer 2: ends' items -/
/-- all items of a trace; the last one is the exit -/
def GF_ (g : V_) (t m : Int) (vc vr : V_) : Prop := (vc (200 + 75 * t) 3 = m ∧ vr 848 t = m ∧ 1 ≤ m ∧ m ≤ 34) ∧ (vc (200 + 75 * t) 5 = vr 860 t ∧ 0 ≤ vr 860 t ∧ vr 860 t ≤ 6) ∧ (∀ j, 0 ≤ j → j < m → IE_ g vc (207 + 75 * t + 2 * j) vr (34 * t + j) ∧ vc (207 + 75 * t + 2 * j) 8 = 0 ∧ LS_ vr t j (vc (207 + 75 * t + 2 * j) 6)) ∧ (∀ j, 0 ≤ j → j < m → (vr 849 (34 * t + j) = 3 ↔ j = m - 1)) ∧ vc (200 + 75 * t) 4 = ct_ (sp_ vr t) m.toNat ∧ vr 850 (34 * t + (m - 1)) = vr 846 (4 * t + (vr 847 t - 1))
theorem GI_q {g : V_} {L : Int → Int} {t m q : Int} {vc vr : V_} (h : GI_ g L t m q vc vr) : GI_ g L t m (q + 1) vc vr := by
  obtain ⟨⟨h1, h2, h3, h4⟩, h5⟩ := h
  exact ⟨⟨h1, h2, h3, by omega⟩, h5⟩
section ENDI
variable {g vc vr : V_} {L : Int → Int} {t m q p b : Int}
def as_ (R : Int → Int) (a : Int) : Int := if a < 6 then R a else a
theorem cend_pre (hw : WF_ g) (hC : C_ vc p g) (ht : 0 ≤ t ∧ t < 8) (h : GI_ g L t m q vc vr) (hm : m < 34) (hb : 0 ≤ b ∧ b < g 0 0) (s o : Int) : ∃ u w, fX10_addItem (200 + 75 * t) s b vc = some (207 + 75 * t + 2 * m, u) ∧ u (p + 56 + b) 0 = 7 + g 7 b ∧ (bd_ (fX10_asRead (200 + 75 * t) (u (p + 56 + b) 2) u) fun q34 => bd_ (fX10_asRead (200 + 75 * t) (q34.2 (p + 56 + b) 3) q34.2) fun q35 => fX8_tell (207 + 75 * t + 2 * m + 1) o (-2) q34.1 q35.1 q35.2) = some (0, w) ∧ (∀ q34 : Int × V_, ∀ k : Int × V_ → Option (Int × V_), True) ∧ w (200 + 75 * t) 3 = m + 1 ∧ w (207 + 75 * t + 2 * m) 1 = s ∧ w (207 + 75 * t + 2 * m) 2 = b ∧ w (207 + 75 * t + 2 * m) 4 = -2 ∧ w (207 + 75 * t + 2 * m) 5 = -2 ∧ w (207 + 75 * t + 2 * m) 6 = vc (200 + 75 * t) 16 ∧ w (207 + 75 * t + 2 * m) 8 = 0 ∧ (w (207 + 75 * t + 2 * m + 1) 0 = o ∧ w (207 + 75 * t + 2 * m + 1) 1 = -2 ∧ w (207 + 75 * t + 2 * m + 1) 2 = vl_ (as_ (vr 861) (g 8 b)) ∧ w (207 + 75 * t + 2 * m + 1) 3 = vl_ (as_ (vr 861) (g 9 b))) ∧ ∀ a k, ¬ (a = 200 + 75 * t ∧ k = 3) → a ≠ 207 + 75 * t + 2 * m → a ≠ 208 + 75 * t + 2 * m → w a k = vc a k := by
  have hn := hw.1
  obtain ⟨-, he, -⟩ := hw.2 b hb.1 hb.2
  obtain ⟨-, ⟨s0, s1, s2, s3⟩, -, -, -⟩ := hC.2.2.1 b hb.1 hb.2
  have hp := hC.1
  have hv : VR_ (g 8 b) ∧ VR_ (g 9 b) := by
    unfold EN_ VR_ at *
    omega
  obtain ⟨⟨h1, h2, h3, h4⟩, h5, h6, -⟩ := h
  obtain ⟨u, e, u1, u2, u3, u4, u5, u6, u7, u8⟩ := cadd_e (s := s) (b := b) ht h1 ⟨h3, hm⟩
  have y : ∀ k, u (p + 56 + b) k = vc (p + 56 + b) k := fun k => u8 _ _ (by omega) (by omega)
  have r5 : ∀ r, 0 ≤ r → r < 6 → u (205 + 75 * t) r = vr 861 r := fun r r0 r1 => (u8 _ _ (by omega) (by omega)).trans (h6 r r0 r1).1
  have r6 : ∀ r, 0 ≤ r → r < 6 → 0 ≤ u (205 + 75 * t) r ∧ u (205 + 75 * t) r < 12 := fun r r0 r1 => by rw [r5 r r0 r1]; exact (h6 r r0 r1).2
  have as : ∀ a, VR_ a → (if a < 6 then u (205 + 75 * t) a else a) = as_ (vr 861) a := fun a ha => by
    unfold VR_ at ha
    unfold as_
    by_cases c : a < 6
    · rw [if_pos c, if_pos c, r5 a (by omega) c]
    · rw [if_neg c, if_neg c]
  obtain ⟨w, e2, w0, w1, w2, w3, w4⟩ := tell_e (207 + 75 * t + 2 * m + 1) o (-2) (vl_ (as_ (vr 861) (g 8 b))) (vl_ (as_ (vr 861) (g 9 b))) u
  refine ⟨u, w, e, by rw [y]; exact s0, ?_, fun _ _ => trivial, ?_, ?_, ?_, ?_, ?_, ?_, ?_, ⟨w0, w1, w2, w3⟩, fun a k q1 q2 q3 => (w4 _ _ (by omega)).trans (u8 _ _ q1 q2)⟩
  · rw [y, s2, asread_e hv.1 r6, bd_s]
    try dsimp only
    rw [y, s3, asread_e hv.2 r6, bd_s]
    try dsimp only
    rw [as _ hv.1, as _ hv.2]
    exact e2
  all_goals rw [w4 _ _ (by omega)]; assumption
theorem rend_pre (hw : WF_ g) (hD : D_ vr g) (ht : 0 ≤ t ∧ t < 8) (h : GI_ g L t m q vc vr) (hm : m < 34) (hb : 0 ≤ b ∧ b < g 0 0) (th s : Int) : ∃ w, fX12_addsEnd_57 814 b th (8 * vr 814 18 + b) 814 t s vr = fX12_addsEnd_132 814 b th (34 * t + m) w ∧ w 848 t = m + 1 ∧ w 849 (34 * t + m) = s ∧ w 850 (34 * t + m) = b ∧ w 851 (34 * t + m) = 3 ∧ w 852 (34 * t + m) = g 7 b ∧ w 854 (34 * t + m) = -2 ∧ w 855 (34 * t + m) = as_ (vr 861) (g 8 b) ∧ w 856 (34 * t + m) = as_ (vr 861) (g 9 b) ∧ w 857 (34 * t + m) = -1 ∧ (∀ a k, ¬ (848 ≤ a ∧ a ≤ 857) → w a k = vr a k) ∧ (∀ a k, k ≠ 34 * t + m → 849 ≤ a → a ≤ 857 → w a k = vr a k) ∧ ∀ k, k ≠ t → w 848 k = vr 848 k := by
  have hn := hw.1
  obtain ⟨-, he, -⟩ := hw.2 b hb.1 hb.2
  have hs0 := hD.1
  have hv : VR_ (g 8 b) ∧ VR_ (g 9 b) := by
    unfold EN_ VR_ at *
    omega
  obtain ⟨⟨h1, h2, h3, h4⟩, ⟨h5, h5a, h5b⟩, h6, -⟩ := h
  obtain ⟨u, e, u1, u2, u3, u4, u5, u6, u7, u8, u9, u10, u11, u12⟩ := radd_e (s := s) (b := b) ht h2 ⟨h3, hm⟩
  have hD1 : D_ u g := D_fr hD (u10 _ _ (by omega)) (fun a k a0 a1 => u10 _ _ (by omega)) (fun k _ _ => u10 _ _ (by omega))
  have l18 : u 814 18 = vr 814 18 := u10 _ _ (by omega)
  unfold fX12_addsEnd_57
  rw [e, bd_s]
  try dsimp only [Int.reduceAdd]
  have dd := hD1.2.2.1 b (by omega) (by omega)
  rw [l18] at dd
  have K : ∀ {α : Type} (x : Option α), ck_ (0 ≤ 34 * t + m ∧ 34 * t + m < 272) x = x := fun x => ck_t (by omega)
  have K2 : ∀ {α : Type} (x : Option α), ck_ (0 ≤ 8 * vr 814 18 + b ∧ 8 * vr 814 18 + b < 16) x = x := fun x => ck_t (by omega)
  simp only [K, K2, lt_d, Int.reduceAdd]
  rw [show ∀ x : Int, up_ u 851 (34 * t + m) x 832 (8 * vr 814 18 + b) = g 7 b from fun x => (up_n (by omega)).trans dd.2.1]
  generalize ez : up_ (up_ u 851 (34 * t + m) 3) 852 (34 * t + m) (g 7 b) = z
  have zo : ∀ a k, ¬ (851 ≤ a ∧ a ≤ 852 ∧ k = 34 * t + m) → z a k = u a k := fun a k n => by rw [← ez, up_n (by omega), up_n (by omega)]
  have z1 : z 851 (34 * t + m) = 3 ∧ z 852 (34 * t + m) = g 7 b := by
    rw [← ez]
    simp (disch := omega) only [up_s, up_n, and_self]
  clear ez
  have e7 : z 832 (8 * vr 814 18 + b) = g 7 b := (zo _ _ (by omega)).trans dd.2.1
  by_cases c : g 7 b = 1
  · rw [if_pos (e7.trans c), zo 833 _ (by omega), dd.2.2.1, readas_e hv.1, bd_s]
    try dsimp only
    rw [up_n (show ¬ ((834 : Int) = 855 ∧ _) by omega), zo 834 _ (by omega), dd.2.2.2, readas_e hv.2, bd_s]
    try dsimp only
    have e61 : ∀ k, z 861 k = vr 861 k := fun k => (zo _ _ (by omega)).trans (u10 _ _ (by omega))
    have e61b : ∀ x k, up_ z 855 (34 * t + m) x 861 k = vr 861 k := fun x k => (up_n (by omega)).trans (e61 k)
    simp only [e61, e61b]
    refine ⟨_, rfl, ?_, ?_, ?_, ?_, ?_, ?_, ?_, ?_, ?_, fun a k q1 => ?_, fun a k q1 q2 q3 => ?_, fun k q1 => ?_⟩
    · rw [up_n (by omega), up_n (by omega), zo _ _ (by omega)]; exact u1
    · rw [up_n (by omega), up_n (by omega), zo _ _ (by omega)]; exact u2
    · rw [up_n (by omega), up_n (by omega), zo _ _ (by omega)]; exact u3
    · rw [up_n (by omega), up_n (by omega)]; exact z1.1
    · rw [up_n (by omega), up_n (by omega)]; exact z1.2
    · rw [up_n (by omega), up_n (by omega), zo _ _ (by omega)]; exact u6
    · rw [up_n (by omega), up_s ⟨rfl, rfl⟩]; rfl
    · rw [up_s ⟨rfl, rfl⟩]; rfl
    · rw [up_n (by omega), up_n (by omega), zo _ _ (by omega)]; exact u9
    · rw [up_n (by omega), up_n (by omega), zo _ _ (by omega)]; exact u10 a k q1
    · rw [up_n (by omega), up_n (by omega), zo _ _ (by omega)]; exact u11 a k q1 q2 q3
    · rw [up_n (by omega), up_n (by omega), zo _ _ (by omega)]; exact u12 k q1
  · rw [if_neg (by rw [e7]; exact c)]
    have h20 : g 8 b = 20 ∧ g 9 b = 20 := by
      unfold EN_ at he
      omega
    have as20 : as_ (vr 861) 20 = 20 := rfl
    refine ⟨z, rfl, ?_, ?_, ?_, z1.1, z1.2, ?_, ?_, ?_, ?_, fun a k q1 => ?_, fun a k q1 q2 q3 => ?_, fun k q1 => ?_⟩
    · rw [zo _ _ (by omega)]; exact u1
    · rw [zo _ _ (by omega)]; exact u2
    · rw [zo _ _ (by omega)]; exact u3
    · rw [zo _ _ (by omega)]; exact u6
    · rw [zo _ _ (by omega), h20.1, as20]; exact u7
    · rw [zo _ _ (by omega), h20.2, as20]; exact u8
    · rw [zo _ _ (by omega)]; exact u9
    · rw [zo _ _ (by omega)]; exact u10 a k q1
    · rw [zo _ _ (by omega)]; exact u11 a k q1 q2 q3
    · rw [zo _ _ (by omega)]; exact u12 k q1
theorem exit_I (hw : WF_ g) (hC : C_ vc p g) (hD : D_ vr g) (ht : 0 ≤ t ∧ t < 8) (h : GI_ g L t m q vc vr) (hq : q ≤ 27) (hb : 0 ≤ b ∧ b < g 0 0) {j : Int} (hj : 0 ≤ j ∧ j < 4) (hM : vc (200 + 75 * t) 1 = j + 1) (hM2 : vr 847 t = j + 1) (hB : vc (201 + 75 * t) j = b) (hB2 : vr 846 (4 * t + j) = b) : ∃ vc' vr' m', fX10_addEnd (200 + 75 * t) p j vc = some (0, vc') ∧ fX12_addsEnd 814 t b (-1) vr = some (0, vr') ∧ GF_ g t m' vc' vr' ∧ Fg1_ t vc vc' ∧ Fg2_ t vr vr' := by
  have hn := hw.1
  obtain ⟨-, he, -⟩ := hw.2 b hb.1 hb.2
  have hs0 := hD.1
  have hp := hC.1
  have hv : VR_ (g 8 b) ∧ VR_ (g 9 b) ∧ 0 ≤ g 7 b ∧ g 7 b ≤ 2 := by
    unfold EN_ VR_ at *
    omega
  obtain ⟨⟨h1, h2, h3, h4⟩, ⟨h5, h5a, h5b⟩, h6, h7, ⟨h8, h9⟩, h10, h11⟩ := id h
  have hm : m < 34 := by omega
  obtain ⟨u, w, e1, e2, e3, -, w1, w2, w3, w4, w5, w6, w7, ⟨w8, w9, w10, w11⟩, w12⟩ := cend_pre hw hC ht h hm hb 3 (7 + g 7 b)
  obtain ⟨z, d1, z1, z2, z3, z4, z5, z6, z7, z8, z9, z10, z11, z12⟩ := rend_pre hw hD ht h hm hb (-1) 3
  have hA : VA_ (as_ (vr 861) (g 8 b)) := as_VA hv.1 (fun r r0 r1 => (h6 r r0 r1).2)
  have hB' : VA_ (as_ (vr 861) (g 9 b)) := as_VA hv.2.1 (fun r r0 r1 => (h6 r r0 r1).2)
  have cls : fX10_addEnd (200 + 75 * t) p j vc = some (0, w) := by
    unfold fX10_addEnd
    rw [ck_t hj, show 200 + 75 * t + 1 = 201 + 75 * t by omega, hB, lt_d, ck_t (by omega), lt_d, hM, wr_id (by omega), if_pos (by omega), show (p + 3) + (53 + 1 * b) = p + 56 + b by omega, e1, bd_s]
    try dsimp only
    rw [e2]
    revert e3
    cases fX10_asRead (200 + 75 * t) (u (p + 56 + b) 2) u with
    | none => exact fun e3 => by cases e3
    | some a =>
      rw [bd_s, bd_s]
      cases fX10_asRead (200 + 75 * t) (a.2 (p + 56 + b) 3) a.2 with
      | none => exact fun e3 => by cases e3
      | some a2 =>
        rw [bd_s, bd_s]
        intro e3
        rw [e3, bd_s]
  have rfs : fX12_addsEnd 814 t b (-1) vr = some (0, z) := by
    unfold fX12_addsEnd fX12_addsEnd_46
    rw [wr_id (show -2147483648 ≤ 8 * vr 814 18 ∧ 8 * vr 814 18 < 2147483648 by omega), wr_id (show -2147483648 ≤ 8 * vr 814 18 + b ∧ 8 * vr 814 18 + b < 2147483648 by omega), lt_d, if_pos (by decide), if_neg (by decide), d1]
    unfold fX12_addsEnd_132
    rw [if_pos (by decide)]
  refine ⟨w, z, m + 1, cls, rfs, ⟨⟨w1, z1, by omega, by omega⟩, ?_, fun i i0 i1 => ?_, fun i i0 i1 => ?_, ?_, ?_⟩, fun a k hh => w12 _ _ (by omega) (by omega) (by omega), fun a k q1 q2 q3 => z10 _ _ q1, fun a k q1 q2 q3 => z11 _ _ (by omega) q1 q2, fun k hh => ⟨z12 _ hh, z10 _ _ (by omega)⟩⟩
  · rw [w12 _ _ (by omega) (by omega) (by omega), z10 _ _ (by omega)]
    exact ⟨h5, h5a, h5b⟩
  · by_cases c : i = m
    · rw [c]
      refine ⟨⟨w2.trans z2.symm, w3.trans z3.symm, by rw [z3]; exact hb, w9.trans z6.symm, by rw [w10, z7], by rw [w11, z8], by rw [z7]; exact hA, by rw [z8]; exact hB', Or.inr (Or.inr (Or.inr ⟨z2, by rw [w8, z5], by rw [z5]; exact hv.2.2, z6, z4, w5, by rw [z5, z3]⟩))⟩, w7, ?_⟩
      rw [w6]
      exact LS_fr h8 fun i i0 i1 => z11 _ _ (by omega) (by decide) (by decide)
    · obtain ⟨x1, x2, x3, x4⟩ := h7 i i0 (by omega)
      have F : ∀ k, w (207 + 75 * t + 2 * i) k = vc (207 + 75 * t + 2 * i) k := fun k => w12 _ _ (by omega) (by omega) (by omega)
      refine ⟨IE_fr x1 ⟨F 1, F 2, F 4, F 5⟩ (fun k => w12 _ _ (by omega) (by omega) (by omega)) (fun a a0 a1 => z11 _ _ (by omega) a0 a1), by rw [F 8]; exact x2, ?_⟩
      rw [F 6]
      exact LS_fr x3 fun k k0 k1 => z11 _ _ (by omega) (by decide) (by decide)
  · by_cases c : i = m
    · rw [c, z2]
      omega
    · rw [z11 _ _ (by omega) (by decide) (by decide)]
      have := (h7 i i0 (by omega)).2.2.2
      omega
  · rw [w12 _ _ (by omega) (by omega) (by omega), h9, show (m + 1).toNat = m.toNat + 1 by omega]
    simp only [ct_]
    rw [ct_congr (f := sp_ z t) (h := sp_ vr t) m.toNat fun i i0 i1 => by unfold sp_; rw [z11 849 _ (by omega) (by decide) (by decide)], show ((m.toNat : Nat) : Int) = m by omega]
    unfold sp_
    rw [z2, if_neg (show ¬ (3 : Int) = 2 by decide)]
    omega
  · rw [z10 847 _ (by omega), z10 846 _ (by omega), hM2, show m + 1 - 1 = m by omega, show j + 1 - 1 = j by omega, z3, hB2]
theorem csplit_e (hw : WF_ g) (hC : C_ vc p g) (ht : 0 ≤ t ∧ t < 8) (h : GI_ g L t m q vc vr) (hm : m < 34) (hb : 0 ≤ b ∧ b < g 0 0) (q0 : g 7 b = 1) {o nx : Int} (o2 : 0 ≤ o ∧ o < 2) (hoff : g 10 (2 * b + o) ≠ nx) (hor : 0 ≤ g 10 (2 * b + o) ∧ g 10 (2 * b + o) < g 0 0) (lo1 : vc (p + 5) (g 10 (2 * b + o)) = L (g 10 (2 * b + o))) : ∃ wc, fX10_addEnd_89 (200 + 75 * t) p b (p + 56 + b) nx o vc = some (0, wc) ∧ (wc (207 + 75 * t + 2 * m) 4 = o ∧ wc (207 + 75 * t + 2 * m) 5 = g 10 (2 * b + o) ∧ wc (200 + 75 * t) 4 = vc (200 + 75 * t) 4 + 1 ∧ wc (200 + 75 * t) 16 = m ∧ wc (200 + 75 * t) 17 = bO_ (vc (200 + 75 * t) 17) (L (g 10 (2 * b + o)))) ∧ wc (200 + 75 * t) 3 = m + 1 ∧ wc (207 + 75 * t + 2 * m) 1 = 2 ∧ wc (207 + 75 * t + 2 * m) 2 = b ∧ wc (207 + 75 * t + 2 * m) 6 = vc (200 + 75 * t) 16 ∧ wc (207 + 75 * t + 2 * m) 8 = 0 ∧ (wc (207 + 75 * t + 2 * m + 1) 0 = 8 ∧ wc (207 + 75 * t + 2 * m + 1) 1 = -2 ∧ wc (207 + 75 * t + 2 * m + 1) 2 = vl_ (as_ (vr 861) (g 8 b)) ∧ wc (207 + 75 * t + 2 * m + 1) 3 = vl_ (as_ (vr 861) (g 9 b))) ∧ ∀ a k, ¬ (a = 200 + 75 * t ∧ (k = 3 ∨ k = 4 ∨ k = 16 ∨ k = 17)) → a ≠ 207 + 75 * t + 2 * m → a ≠ 208 + 75 * t + 2 * m → wc a k = vc a k := by
  have hn := hw.1
  obtain ⟨-, ⟨s0, -, -, -⟩, -, -, -⟩ := hC.2.2.1 b hb.1 hb.2
  have hp : 12 ≤ p ∧ p ≤ 76 := by have := hC.1; omega
  obtain ⟨u, w, e1, e2, e3, -, w1, w2, w3, w4, w5, w6, w7, ⟨w8, w9, w10, w11⟩, w12⟩ := cend_pre hw hC ht h hm hb 2 8
  obtain ⟨⟨h1, h2, h3, h4⟩, ⟨h5, h5a, h5b⟩, h6, h7, ⟨h8, h9⟩, h10, h11⟩ := h
  have ctb := ct_01 (sp_01 vr t) m.toNat
  have v1 : w (200 + 75 * t) 4 = vc (200 + 75 * t) 4 := w12 _ _ (by omega) (by omega) (by omega)
  have v2 : w (200 + 75 * t) 17 = vc (200 + 75 * t) 17 := w12 _ _ (by omega) (by omega) (by omega)
  have v3 : w (p + 5) (g 10 (2 * b + o)) = L (g 10 (2 * b + o)) := (w12 _ _ (by omega) (by omega) (by omega)).trans lo1
  have v4 : -2147483648 ≤ vc (200 + 75 * t) 4 + 1 ∧ vc (200 + 75 * t) 4 + 1 < 2147483648 := by omega
  unfold fX10_addEnd_89
  rw [leadsTo_e hw hC hb o2, bd_s]
  try dsimp only
  rw [if_pos (by rw [s0]; omega), if_neg hoff, e1, bd_s]
  try dsimp only
  clear h6 h7 h8 h9 h10 h11 lo1 hoff hw hC e2 s0
  revert e3
  cases fX10_asRead (200 + 75 * t) (u (p + 56 + b) 2) u with
  | none => exact fun e3 => by cases e3
  | some a =>
    rw [bd_s, bd_s]
    cases fX10_asRead (200 + 75 * t) (a.2 (p + 56 + b) 3) a.2 with
    | none => exact fun e3 => by cases e3
    | some a2 =>
      rw [bd_s, bd_s]
      intro e3
      rw [e3, bd_s, lt_d, lt_d, lt_d, lt_d, ck_t (by omega), lt_d]
      try dsimp only
      clear e3
      generalize e5 : up_ (up_ w (207 + 75 * t + 2 * m) 4 o) (207 + 75 * t + 2 * m) 5 (g 10 (2 * b + o)) = z
      have n1 : ∀ a k, ¬ (a = 207 + 75 * t + 2 * m ∧ (k = 4 ∨ k = 5)) → z a k = w a k := fun a k n => by rw [← e5, up_n (by omega), up_n (by omega)]
      have n2 : z (207 + 75 * t + 2 * m) 4 = o ∧ z (207 + 75 * t + 2 * m) 5 = g 10 (2 * b + o) := by
        rw [← e5]
        simp (disch := omega) only [up_s, up_n, and_self]
      clear e5
      rw [n1 (200 + 75 * t) 4 (by omega), v1, wr_id v4]
      rw [up_n (show ¬ (200 + 75 * t = 200 + 75 * t ∧ (3 : Int) = 4) by omega), n1 (200 + 75 * t) 3 (by omega), w1, wr_id (show -2147483648 ≤ m + 1 - 1 ∧ m + 1 - 1 < 2147483648 by omega), show m + 1 - 1 = m by omega]
      rw [up_n (show ¬ (200 + 75 * t = 200 + 75 * t ∧ (17 : Int) = 16) by omega), up_n (show ¬ (200 + 75 * t = 200 + 75 * t ∧ (17 : Int) = 4) by omega), n1 (200 + 75 * t) 17 (by omega), v2]
      rw [up_n (show ¬ (p + 5 = 200 + 75 * t ∧ g 10 (2 * b + o) = 16) by omega), up_n (show ¬ (p + 5 = 200 + 75 * t ∧ g 10 (2 * b + o) = 4) by omega), n1 (p + 5) _ (by omega), v3]
      refine ⟨_, rfl, ⟨?_, ?_, ?_, ?_, ?_⟩, ?_, ?_, ?_, ?_, ?_, ⟨?_, ?_, ?_, ?_⟩, fun a k y1 y2 y3 => ?_⟩
      · rw [up_n (by omega), up_n (by omega), up_n (by omega)]; exact n2.1
      · rw [up_n (by omega), up_n (by omega), up_n (by omega)]; exact n2.2
      · rw [up_n (by omega), up_n (by omega), up_s ⟨rfl, rfl⟩]
      · rw [up_n (by omega), up_s ⟨rfl, rfl⟩]
      · rw [up_s ⟨rfl, rfl⟩]
      · rw [up_n (by omega), up_n (by omega), up_n (by omega), n1 _ _ (by omega)]; exact w1
      · rw [up_n (by omega), up_n (by omega), up_n (by omega), n1 _ _ (by omega)]; exact w2
      · rw [up_n (by omega), up_n (by omega), up_n (by omega), n1 _ _ (by omega)]; exact w3
      · rw [up_n (by omega), up_n (by omega), up_n (by omega), n1 _ _ (by omega)]; exact w6
      · rw [up_n (by omega), up_n (by omega), up_n (by omega), n1 _ _ (by omega)]; exact w7
      · rw [up_n (by omega), up_n (by omega), up_n (by omega), n1 _ _ (by omega)]; exact w8
      · rw [up_n (by omega), up_n (by omega), up_n (by omega), n1 _ _ (by omega)]; exact w9
      · rw [up_n (by omega), up_n (by omega), up_n (by omega), n1 _ _ (by omega)]; exact w10
      · rw [up_n (by omega), up_n (by omega), up_n (by omega), n1 _ _ (by omega)]; exact w11
      · rw [up_n (by omega), up_n (by omega), up_n (by omega), n1 _ _ (by omega)]; exact w12 _ _ (by omega) y2 y3
theorem rsplit_e (hw : WF_ g) (hD : D_ vr g) (ht : 0 ≤ t ∧ t < 8) (h : GI_ g L t m q vc vr) (hm : m < 34) (hb : 0 ≤ b ∧ b < g 0 0) {o nx : Int} (hnx : 0 ≤ nx) (eo : (if g 10 (2 * b + 0) = nx then (1 : Int) else 0) = o) : ∃ wr, fX12_addsEnd_46 814 t b nx (8 * vr 814 18 + b) vr = some (0, wr) ∧ wr 848 t = m + 1 ∧ wr 849 (34 * t + m) = 2 ∧ wr 850 (34 * t + m) = b ∧ wr 851 (34 * t + m) = 3 ∧ wr 852 (34 * t + m) = g 7 b ∧ wr 854 (34 * t + m) = -2 ∧ wr 855 (34 * t + m) = as_ (vr 861) (g 8 b) ∧ wr 856 (34 * t + m) = as_ (vr 861) (g 9 b) ∧ wr 857 (34 * t + m) = o ∧ (∀ a k, ¬ (848 ≤ a ∧ a ≤ 857) → wr a k = vr a k) ∧ (∀ a k, k ≠ 34 * t + m → 849 ≤ a → a ≤ 857 → wr a k = vr a k) ∧ ∀ k, k ≠ t → wr 848 k = vr 848 k := by
  have hn := hw.1
  obtain ⟨z, d1, z1, z2, z3, z4, z5, z6, z7, z8, z9, z10, z11, z12⟩ := rend_pre hw hD ht h hm hb nx 2
  have hm0 := h.1.2.2.1
  have e46 : fX12_addsEnd_46 814 t b nx (8 * vr 814 18 + b) vr = some (0, up_ z 857 (34 * t + m) o) := by
    unfold fX12_addsEnd_46
    rw [if_pos hnx, d1]
    unfold fX12_addsEnd_132
    have hDz : D_ z g := D_fr hD (z10 _ _ (by omega)) (fun a k a0 a1 => z10 _ _ (by omega)) (fun k _ _ => z10 _ _ (by omega))
    rw [if_neg (by omega), wayTo_e hDz (by omega) (by decide), bd_s]
    try dsimp only [Int.reduceAdd]
    by_cases c : g 10 (2 * b + 0) = nx
    · rw [if_pos c] at eo
      rw [if_pos c, ck_t (by omega), lt_d, eo]
    · rw [if_neg c] at eo
      rw [if_neg c, ck_t (by omega), lt_d, eo]
  clear eo d1 h hw hD
  refine ⟨_, e46, ?_, ?_, ?_, ?_, ?_, ?_, ?_, ?_, up_s ⟨rfl, rfl⟩, fun a k y1 => ?_, fun a k y1 y2 y3 => ?_, fun k y1 => ?_⟩
  · rw [up_n (by omega)]; exact z1
  · rw [up_n (by omega)]; exact z2
  · rw [up_n (by omega)]; exact z3
  · rw [up_n (by omega)]; exact z4
  · rw [up_n (by omega)]; exact z5
  · rw [up_n (by omega)]; exact z6
  · rw [up_n (by omega)]; exact z7
  · rw [up_n (by omega)]; exact z8
  · rw [up_n (by omega)]; exact z10 a k y1
  · rw [up_n (by omega)]; exact z11 a k y1 y2 y3
  · rw [up_n (by omega)]; exact z12 k y1
theorem none_I (hw : WF_ g) (hC : C_ vc p g) (h : GI_ g L t m q vc vr) (hb : 0 ≤ b ∧ b < g 0 0) {j M nx : Int} (hj : 0 ≤ j ∧ j + 1 < M ∧ M ≤ 4) (hM : vc (200 + 75 * t) 1 = M) (hB : vc (201 + 75 * t) j = b) (hN : vc (201 + 75 * t) (j + 1) = nx) : fX10_addEnd (200 + 75 * t) p j vc = fX10_addEnd_89 (200 + 75 * t) p b (p + 56 + b) nx (if g 10 (2 * b + 0) = nx then 1 else 0) vc := by
  have hn := hw.1
  unfold fX10_addEnd
  rw [ck_t (by omega), show 200 + 75 * t + 1 = 201 + 75 * t by omega, hB, lt_d, ck_t (by omega), lt_d, hM, wr_id (show -2147483648 ≤ M - 1 ∧ M - 1 < 2147483648 by omega), if_neg (by omega), show (p + 3) + (53 + 1 * b) = p + 56 + b by omega, wr_id (show -2147483648 ≤ j + 1 ∧ j + 1 < 2147483648 by omega), ck_t (by omega), hN, lt_d, leadsTo_e hw hC hb (by decide), bd_s]
  try dsimp only
  by_cases c : g 10 (2 * b + 0) = nx
  · rw [if_pos c, if_pos c]
  · rw [if_neg c, if_neg c]
theorem split_I (hw : WF_ g) (hC : C_ vc p g) (hD : D_ vr g) (ht : 0 ≤ t ∧ t < 8) (h : GI_ g L t m q vc vr) (hL : ∀ b, 0 ≤ b → b < g 0 0 → vc (p + 5) b = L b ∧ r6_ (L b)) (hq : q ≤ 27) (hb : 0 ≤ b ∧ b < g 0 0) (h2' : g 7 b ≠ 2) {j M nx : Int} (hj : 0 ≤ j ∧ j + 1 < M ∧ M ≤ 4) (hM : vc (200 + 75 * t) 1 = M) (hB : vc (201 + 75 * t) j = b) (hN : vc (201 + 75 * t) (j + 1) = nx) (hnx : 0 ≤ nx ∧ nx < g 0 0) : ∃ vc' vr' m', fX10_addEnd (200 + 75 * t) p j vc = some (0, vc') ∧ fX12_addsEnd 814 t b nx vr = some (0, vr') ∧ GI_ g L t m' (q + 1) vc' vr' ∧ Fg1_ t vc vc' ∧ Fg2_ t vr vr' := by
  have hn := hw.1
  obtain ⟨-, he, -⟩ := hw.2 b hb.1 hb.2
  obtain ⟨-, ⟨s0, -, -, -⟩, -, -, -⟩ := hC.2.2.1 b hb.1 hb.2
  have hs0 := hD.1
  have hm : m < 34 := by
    have := h.1
    have := h.2.1
    omega
  have dd := hD.2.2.1 b (by omega) (by omega)
  have r18 : wr_ (wr_ (8 * vr 814 18) + b) = 8 * vr 814 18 + b := by rw [wr_id (show -2147483648 ≤ 8 * vr 814 18 ∧ 8 * vr 814 18 < 2147483648 by omega), wr_id (by omega)]
  have d7 : vr (814 + 18) (8 * vr 814 18 + b) = g 7 b := dd.2.1
  have none' : fX10_addEnd_89 (200 + 75 * t) p b (p + 56 + b) nx (if g 10 (2 * b + 0) = nx then 1 else 0) vc = some (0, vc) → fX12_addsEnd 814 t b nx vr = some (0, vr) → ∃ vc' vr' m', fX10_addEnd (200 + 75 * t) p j vc = some (0, vc') ∧ fX12_addsEnd 814 t b nx vr = some (0, vr') ∧ GI_ g L t m' (q + 1) vc' vr' ∧ Fg1_ t vc vc' ∧ Fg2_ t vr vr' := fun hc hr => ⟨vc, vr, m, (none_I hw hC h hb hj hM hB hN).trans hc, hr, GI_q h, fun _ _ _ => rfl, fun _ _ _ _ _ => rfl, fun _ _ _ _ _ => rfl, fun _ _ => ⟨rfl, rfl⟩⟩
  rcases he with ⟨q0, q1, q2, q3, q4, q5⟩ | ⟨q0, q1, q2, q3, q4, q5, q6⟩ | ⟨q0, -⟩
  · refine none' ?_ ?_
    · unfold fX10_addEnd_89
      rw [leadsTo_e hw hC hb (by split <;> decide), bd_s]
      try dsimp only
      rw [if_neg (by rw [s0]; omega)]
    · unfold fX12_addsEnd
      rw [r18, lt_d, if_neg (by omega), ck_t (by omega), if_pos (d7.trans q0)]
  · by_cases same : g 10 (2 * b + 0) = nx ∧ g 10 (2 * b + 1) = nx
    · refine none' ?_ ?_
      · rw [if_pos same.1]
        unfold fX10_addEnd_89
        rw [leadsTo_e hw hC hb (by decide), bd_s]
        try dsimp only
        rw [if_pos (by rw [s0]; omega), if_pos same.2]
      · unfold fX12_addsEnd
        rw [r18, lt_d, if_neg (by omega), ck_t (by omega), if_neg (by rw [d7]; omega), wayTo_e hD (by omega) (by decide), bd_s]
        try dsimp only
        rw [if_pos same.1, wayTo_e hD (by omega) (by decide), bd_s]
        try dsimp only
        rw [if_pos same.2]
    · have cls0 := none_I hw hC h hb hj hM hB hN
      have rfs0 : fX12_addsEnd 814 t b nx vr = fX12_addsEnd_46 814 t b nx (8 * vr 814 18 + b) vr := by
        unfold fX12_addsEnd
        rw [r18, lt_d, if_neg (by omega), ck_t (by omega), if_neg (by rw [d7]; omega), wayTo_e hD (by omega) (by decide), bd_s]
        try dsimp only
        by_cases c : g 10 (2 * b + 0) = nx
        · rw [if_pos c, wayTo_e hD (by omega) (by decide), bd_s]
          try dsimp only
          rw [if_neg (fun n => same ⟨c, n⟩)]
        · rw [if_neg c]
      generalize eo : (if g 10 (2 * b + 0) = nx then (1 : Int) else 0) = o at cls0
      have o2 : 0 ≤ o ∧ o < 2 := by rw [← eo]; split <;> decide
      have hoff : g 10 (2 * b + o) ≠ nx := by
        rw [← eo]
        by_cases c : g 10 (2 * b + 0) = nx
        · rw [if_pos c]; exact fun n => same ⟨c, n⟩
        · rw [if_neg c]; exact c
      have hor : 0 ≤ g 10 (2 * b + o) ∧ g 10 (2 * b + o) < g 0 0 := by
        rcases (by omega : o = 0 ∨ o = 1) with e | e
        · rw [e, Int.add_zero]; exact ⟨q3, q4⟩
        · rw [e]; exact ⟨q5, q6⟩
      obtain ⟨lo1, lo2⟩ := hL _ hor.1 hor.2
      obtain ⟨wc, cls, c1, w1, w2, w3, w6, w7, ⟨w8, w9, w10, w11⟩, w12⟩ := csplit_e hw hC ht h hm hb q0 o2 hoff hor lo1
      obtain ⟨wr, rfs, z1, z2, z3, z4, z5, z6, z7, z8, z9, z10, z11, z12⟩ := rsplit_e hw hD ht h hm hb hnx.1 eo
      have hR6 : ∀ b, 0 ≤ b → b < g 0 0 → r6_ (L b) := fun b b0 b1 => (hL b b0 b1).2
      obtain ⟨⟨h1, h2, h3, h4⟩, ⟨h5, h5a, h5b⟩, h6, h7, -⟩ := id h
      have hA : VA_ (as_ (vr 861) (g 8 b)) := as_VA q1 (fun r r0 r1 => (h6 r r0 r1).2)
      have hB' : VA_ (as_ (vr 861) (g 9 b)) := as_VA q2 (fun r r0 r1 => (h6 r r0 r1).2)
      clear hL lo1 lo2 hoff same none' h7 q1 q2 q3 q4 q5 q6 hD hC hw d7 r18 dd s0 hM hB hN hnx eo h2' hj
      refine ⟨wc, wr, m + 1, cls0.trans cls, rfs0.trans rfs, GI_add h hR6 w1 z1 ?_ ?_ (fun s s0 s1 => ?_) (fun j k j0 j1 => ⟨w12 _ _ (by omega) (by omega) (by omega), w12 _ _ (by omega) (by omega) (by omega)⟩) (fun a j a0 a1 j0 j1 => z11 _ _ (by omega) a0 a1) ⟨w2.trans z2.symm, w3.trans z3.symm, by rw [z3]; exact hb, w9.trans z6.symm, by rw [w10, z7], by rw [w11, z8], by rw [z7]; exact hA, by rw [z8]; exact hB', Or.inr (Or.inr (Or.inl ⟨z2, w8, z5.trans q0, z6, z4, c1.1.trans z9.symm, by rw [z9]; exact o2, by rw [c1.2.1, z3, z9], by rw [c1.2.1]; exact hor.1, by rw [c1.2.1]; exact hor.2⟩))⟩ w7 w6 (by rw [z2]; decide) (by rw [c1.2.2.2.1, z2, if_pos rfl]) (by rw [c1.2.2.2.2, z2, if_pos rfl, z3, z9]) (by rw [c1.2.2.1]; unfold sp_; rw [z2, if_pos rfl]), fun a k hh => w12 _ _ (by omega) (by omega) (by omega), fun a k y1 y2 y3 => z10 _ _ y1, fun a k y1 y2 y3 => z11 _ _ (by omega) y1 y2, fun k hh => ⟨z12 _ hh, z10 _ _ (by omega)⟩⟩
      · rw [z10 860 _ (by omega)]; omega
      · rw [w12 _ _ (by omega) (by omega) (by omega), z10 _ _ (by omega)]; exact ⟨h5, h5a, h5b⟩
      · rw [w12 _ _ (by omega) (by omega) (by omega), z10 _ _ (by omega)]; exact h6 s s0 s1
  · exact absurd q0 h2'
end ENDI
