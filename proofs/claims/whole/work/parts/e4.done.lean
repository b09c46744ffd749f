/-! layer 2: an item read by both -/
theorem wr_add {a b c : Int} (h : wr_ (a + b) = c) (d : Int) : wr_ (a + (b + d)) = wr_ (c + d) := by
  unfold wr_ at *
  omega
def Sx_ (u u' : V_) (y : Int) : Prop := ∀ k, u' (y + 1) k = u (y + 1) k
theorem do_l {g u w : V_} {t j : Int} (ht : 0 ≤ t ∧ t < 8) (hj : 0 ≤ j ∧ j < 34) (hE : IE_ g u (207 + 75 * t + 2 * j) w (34 * t + j)) (hk : w 849 (34 * t + j) = 0 ∨ w 849 (34 * t + j) = 1) (hR : RC_ u 807 w) : ∃ w1 z uu, fX12_readsItem 814 t j w = some (0, w1) ∧ Fi2_ j w w1 ∧ fX6_wouldFault 807 (207 + 75 * t + 2 * j + 1) u = some (w1 866 j, u) ∧ (w1 866 j = 0 ∨ w1 866 j = 1) ∧ fX6_resultOf 807 (207 + 75 * t + 2 * j + 1) u = some (z, u) ∧ fX6_valueOf 807 (u (207 + 75 * t + 2 * j + 1) 2) u = some (uu, u) ∧ (∀ u', Sx_ u u' (207 + 75 * t + 2 * j) → fX6_settle 807 (207 + 75 * t + 2 * j + 1) z uu u' = some (0, se_ u' 808 809 (w 854 (34 * t + j)) (w1 865 j) (w1 864 j))) ∧ iR_ (w1 864 j) ∧ w1 865 j < 8 ∧ w 854 (34 * t + j) < 12 := by
  obtain ⟨hL, hS⟩ := IE_line hE hk
  obtain ⟨w1, e, w2, w3, w4, w5⟩ := reads_l ht hj hL
  obtain ⟨a1, a2⟩ := rv_T hR hL.2.2.1
  obtain ⟨b1, b2⟩ := rv_T hR hL.2.2.2
  have dT := dv_T (s := w 852 (34 * t + j)) (o := w 853 (34 * t + j)) (u := rv_ (w 839) (w 855 (34 * t + j))) hR b2
  have r12 : w 854 (34 * t + j) < 12 := by
    rcases hL.2.1 with h | h | h <;> omega
  refine ⟨w1, (if w 852 (34 * t + j) = 2 then rv_ (u (807 + 1)) (w 856 (34 * t + j)) else dv_ (u (807 + 2)) (w 852 (34 * t + j)) (w 853 (34 * t + j)) (rv_ (u (807 + 1)) (w 855 (34 * t + j))) (rv_ (u (807 + 1)) (w 856 (34 * t + j)))), rv_ (u (807 + 1)) (w 855 (34 * t + j)), e, w5, ?_, ?_, cres_e hS hL.2 (by rw [a1]; exact a2), ?_, fun u' hu => ?_, ?_, ?_, r12⟩
  · rw [cwf_e hS hL.2, a1, b1, w2]; rfl
  · rw [w2]; exact wf_01 _ _ _ _
  · rw [hS.2.2.1]; exact cval_e hL.2.2.1
  · have hS' : SI_ u' (207 + 75 * t + 2 * j + 1) (w 852 (34 * t + j)) (w 853 (34 * t + j)) (w 854 (34 * t + j)) (w 855 (34 * t + j)) (w 856 (34 * t + j)) := by
      unfold SI_ at *
      rw [hu, hu, hu, hu]
      exact hS
    rw [cset_e hS' hL.2, se_2 hL.2]
    have q1 : w1 865 j = dc_ (w 852 (34 * t + j)) (rv_ (w 839) (w 855 (34 * t + j))) := w4
    have q2 : w1 864 j = dv_ (w 840) (w 852 (34 * t + j)) (w 853 (34 * t + j)) (rv_ (w 839) (w 855 (34 * t + j))) (rv_ (w 839) (w 856 (34 * t + j))) := w3
    rw [show (807 : Int) + 1 = 808 from rfl, show (807 : Int) + 2 = 809 from rfl] at *
    rw [a1, b1, dT.1, q1, q2]
  · rw [w3]; exact dT.2
  · rw [w4]; exact dc_lt _ _
theorem RC_se {u w X : V_} {r c d : Int} (hR : RC_ u 807 w) (hX : ∀ k, X 839 k = w 839 k ∧ X 840 k = w 840 k) (hr : r < 12) (hc : c < 8) (hd : iR_ d) : RC_ (se_ u 808 809 r c d) 807 (se_ X 839 840 r c d) :=
  se_T (RC_fr hR (fun _ => rfl) (fun _ => rfl) (fun k => (hX k).1) (fun k => (hX k).2)) hr hc hd
/-- what the copied items change -/
def Gc_ (u w : V_) : Prop := ∀ a k, a ≠ 808 → a ≠ 809 → w a k = u a k
def Gs_ (u w : V_) : Prop := ∀ a k, a ≠ 839 → a ≠ 840 → a ≠ 864 → a ≠ 865 → a ≠ 866 → a ≠ 868 → ¬ (a = 814 ∧ ((40 ≤ k ∧ k ≤ 42) ∨ k = 45)) → w a k = u a k
theorem PT_g {g vc vr wc wr : V_} {L : Int → Int} {t m : Int} (ht : 0 ≤ t ∧ t < 8) (h : PT_ g L t m vc vr) (h1 : ∀ a k, a < 800 → wc a k = vc a k) (h2 : ∀ a k, 843 ≤ a → a ≤ 863 → wr a k = vr a k) : PT_ g L t m wc wr :=
  PT_fr h (fun a k _ _ => h1 a k (by omega)) (fun k => ⟨h2 _ _ (by decide) (by decide), h2 _ _ (by decide) (by decide)⟩) ⟨h2 _ _ (by decide) (by decide), h2 _ _ (by decide) (by decide)⟩ (fun a k q1 q2 _ _ => h2 a k (by omega) (by omega))
/-- a split goes ahead of every later split -/
theorem spl_lt {g vc vr : V_} {L : Int → Int} {t m : Int} (h : PT_ g L t m vc vr) {i j : Int} (i0 : 0 ≤ i) (ij : i < j) (j1 : j < m) (hi : vr 849 (34 * t + i) = 2) (hj : vr 849 (34 * t + j) = 2 ∨ vr 849 (34 * t + j) = 3) : vr 858 (34 * t + i) < vr 858 (34 * t + j) := by
  have x := h.2.2.2.1 i j i0 ij j1
  have y : 1 ≤ vc (204 + 75 * t) (34 * i + j) := x.1 ((vr 849 (34 * t + i) = 2 ∧ kep_ g L vr (34 * t + i) (34 * t + j)), 1) (by unfold nL_; exact List.mem_cons_of_mem _ List.mem_cons_self) ⟨hi, by unfold kep_; rcases hj with w | w; exact Or.inl w; exact Or.inr (Or.inl w)⟩
  have := h.2.2.2.2.2.2.1.2.1 i j i0 ij j1 (by omega)
  omega
theorem copied_T {g vc vr : V_} {L : Int → Int} {t m j : Int} (hg : RG_ g) (ht : 0 ≤ t ∧ t < 8) (hP : PT_ g L t m vc vr) (hD : D_ vr g) (hR : RC_ vc 807 vr) (hj : 0 ≤ j ∧ j < m) (hs : vr 849 (34 * t + j) = 2) (hc : wr_ (vc 807 5 + (vr 858 (34 * t + j) + 1)) = vr 814 45) : ∃ vc' vr' ok, fX6_doCopied 807 (200 + 75 * t) j vc = some (0, vc') ∧ fX12_copiedDone 814 t j vr = some (ok, vr') ∧ RC_ vc' 807 vr' ∧ Gs_ vr vr' ∧ (∀ a k, a ≠ 808 → a ≠ 809 → ¬ (a = 807 ∧ (k = 4 ∨ k = 5 ∨ k = 9)) → vc' a k = vc a k) ∧ ((ok = 1 ∧ vc' 807 4 = vc 807 4 ∧ vc' 807 9 = vc 807 9 ∧ vc' 807 5 = vr' 814 45) ∨ (ok = 0 ∧ vc' 807 4 = 1 ∧ vc' 807 9 = -1 ∧ vc' 807 5 = vc 807 5)) := by
  have hm := hP.1.1.2.2
  have h7 : ∀ i, 0 ≤ i → i < m → vc (207 + 75 * t + 2 * i) 7 = vr 858 (34 * t + i) ∧ 0 ≤ vr 858 (34 * t + i) ∧ vr 858 (34 * t + i) < 300 := hP.2.2.2.2.2.2.1.1
  have cj := h7 j hj.1 hj.2
  unfold fX6_doCopied fX12_copiedDone
  rw [ck_t (by omega), show 200 + 75 * t + 2 + (5 + 2 * j) = 207 + 75 * t + 2 * j by omega, lt_d, lt_d, cj.1, wr_id (show -2147483648 ≤ vr 858 (34 * t + j) + 1 ∧ vr 858 (34 * t + j) + 1 < 2147483648 by omega)]
  rcases lp_x (σ := V_ × Int × V_) (α := Option (Int × V_) × Option (Int × V_)) (F := fun n i s => (fX6_doCopied_18 n 807 (200 + 75 * t) j (vr 858 (34 * t + j)) s.2.1 i s.1, fX12_copiedDone_2 n 814 t j i s.2.2)) (K := fun s => (some (0, up_ s.1 807 5 (wr_ (s.1 807 5 + s.2.1))), some (1, s.2.2))) (e := j) (I := fun i s => (0 ≤ i ∧ 0 ≤ s.2.1 ∧ s.2.1 ≤ 301 + 6 * i) ∧ Gc_ vc s.1 ∧ Gs_ vr s.2.2 ∧ RC_ s.1 807 s.2.2 ∧ wr_ (vc 807 5 + s.2.1) = s.2.2 814 45) (Q := fun out => ∃ vc' vr', out = (some (0, vc'), some (0, vr')) ∧ RC_ vc' 807 vr' ∧ Gs_ vr vr' ∧ (∀ a k, a ≠ 808 → a ≠ 809 → ¬ (a = 807 ∧ (k = 4 ∨ k = 5 ∨ k = 9)) → vc' a k = vc a k) ∧ vc' 807 4 = 1 ∧ vc' 807 9 = -1 ∧ vc' 807 5 = vc 807 5) (fun n i ⟨u, s, w⟩ h hi => by
    obtain ⟨⟨i0, s0, s1⟩, G1, G2, hRu, hcu⟩ := h
    dsimp only at s0 s1 G1 G2 hRu hcu ⊢
    have hPu : PT_ g L t m u w := PT_g ht hP (fun a k _ => G1 a k (by omega) (by omega)) (fun a k _ _ => G2 a k (by omega) (by omega) (by omega) (by omega) (by omega) (by omega) (by omega))
    have hDw : D_ w g := D_fr hD (G2 _ _ (by decide) (by decide) (by decide) (by decide) (by decide) (by decide) (by decide)) (fun a k _ _ => G2 a k (by omega) (by omega) (by omega) (by omega) (by omega) (by omega) (by omega)) (fun k _ _ => G2 _ _ (by decide) (by decide) (by decide) (by decide) (by decide) (by decide) (by omega))
    have ew : ∀ a k, 843 ≤ a → a ≤ 863 → w a k = vr a k := fun a k _ _ => G2 a k (by omega) (by omega) (by omega) (by omega) (by omega) (by omega) (by omega)
    have ci := h7 i i0 (by omega)
    have eu : u (207 + 75 * t + 2 * i) 7 = vr 858 (34 * t + i) := (G1 _ _ (by omega) (by omega)).trans ci.1
    obtain ⟨r, o1, o2⟩ := isCopied_e (v := w) (t := t) (j := j) (i := i) ht ⟨hj.1, by omega⟩ ⟨i0, by omega⟩
    rw [ew 849 _ (by decide) (by decide), ew 858 _ (by decide) (by decide), ew 858 _ (by decide) (by decide)] at o2
    rw [fX6_doCopied_18, if_neg (show ¬ j ≤ i by omega), ck_t (by omega), lt_d, show 200 + 75 * t + 2 + (5 + 2 * i) = 207 + 75 * t + 2 * i by omega, eu, fX12_copiedDone_2, if_neg (show ¬ j ≤ i by omega), o1, bd_s]
    try dsimp only
    rcases o2 with ⟨q, -, -, q2⟩ | ⟨q, q2⟩
    · rw [if_neg (show ¬ vr 858 (34 * t + i) ≤ vr 858 (34 * t + j) by omega), if_neg (show ¬ r = 0 by omega)]
      have hkind : w 849 (34 * t + i) = 0 ∨ w 849 (34 * t + i) = 1 := by
        have k3 := (hPu.2.1 i i0 (by omega)).2.2.1
        have k2 : vr 849 (34 * t + i) ≠ 2 := fun z => by
          have := spl_lt hP i0 hi hj.2 z (Or.inl hs)
          omega
        rw [← ew 849 _ (by decide) (by decide)] at k2
        obtain ⟨-, -, -, -, -, -, -, -, o⟩ := (hPu.2.1 i i0 (by omega)).1
        rcases o with ⟨o, -⟩ | ⟨o, -⟩ | ⟨o, -⟩ | ⟨o, -⟩
        · exact Or.inl o
        · exact Or.inr o
        · exact absurd o k2
        · have := k3.1 o
          omega
      obtain ⟨w1, z, uu, d1, d2, d3, d4, d5, d6, d7, d8, d9, d10⟩ := do_l ht ⟨i0, by omega⟩ (hPu.2.1 i i0 (by omega)).1 hkind hRu
      rw [d3, bd_s, d1, bd_s, ck_t (by omega), show (814 : Int) + 52 = 866 from rfl]
      try dsimp only
      by_cases c : w1 866 i = 0
      · have st := d7 u (fun _ => rfl)
        have kb := (IE_kind (hPu.2.1 i i0 (by omega)).1).2
        have lb := hg.2.2.2.2 (43 + w 851 (34 * t + i)) (by omega) (by omega)
        have el := (hPu.2.1 i i0 (by omega)).2.2.2
        unfold lat_ at el
        have F : ∀ a k, a ≠ 814 → a ≠ 864 → a ≠ 865 → a ≠ 866 → a ≠ 868 → w1 a k = w a k := fun a k _ _ _ _ _ => d2 a k (by omega) (by omega)
        obtain ⟨w2, g1, g2⟩ := sets_l (vr := w1) ht ⟨i0, by omega⟩ (by rw [F _ _ (by decide) (by decide) (by decide) (by decide) (by decide)]; exact hkind) (by rw [F _ _ (by decide) (by decide) (by decide) (by decide) (by decide)]; exact d10) d9
        have H : ∀ a k, a ≠ 839 → a ≠ 840 → ¬ (a = 814 ∧ (k = 40 ∨ k = 41)) → w2 a k = w1 a k := fun a k h1 h2 h3 => by
          rw [g2, se_o ⟨h1, h2⟩, up_n (by omega), up_n (by omega)]
        have D2 : D_ w2 g := D_fr hDw (by rw [H _ _ (by decide) (by decide) (by decide)]; exact d2 _ _ (by decide) (by omega)) (fun a k _ _ => by rw [H _ _ (by omega) (by omega) (by omega)]; exact F _ _ (by omega) (by omega) (by omega) (by omega) (by omega)) (fun k _ _ => by rw [H _ _ (by decide) (by decide) (by omega)]; exact F _ _ (by decide) (by decide) (by decide) (by decide) (by decide))
        have e51 : w2 851 (34 * t + i) = w 851 (34 * t + i) := by rw [H _ _ (by decide) (by decide) (by omega)]; exact F _ _ (by decide) (by decide) (by decide) (by decide) (by decide)
        have e45 : w2 814 45 = w 814 45 := by rw [H _ _ (by decide) (by decide) (by decide)]; exact d2 _ _ (by decide) (by omega)
        have tk : fX12_takesItem 814 (34 * t + i) w2 = some (g 11 (43 + w 851 (34 * t + i)), w2) := by
          unfold fX12_takesItem
          rw [ck_t (by omega), show (814 : Int) + 37 = 851 from rfl, e51, takesOf_e D2 kb, bd_s]
        have es : ∀ k, se_ u 808 809 (w 854 (34 * t + i)) (w1 865 i) (w1 864 i) (207 + 75 * t + 2 * i) k = u (207 + 75 * t + 2 * i) k := fun k => se_o (by omega)
        rw [if_pos c, d5, bd_s, if_pos c, g1, bd_s]
        try dsimp only
        rw [d6, bd_s]
        try dsimp only
        rw [st, bd_s, lt_d, lt_d, ix_ ht ⟨i0, by omega⟩, tk, bd_s, lt_d, lt_d]
        try dsimp only
        rw [es, el, wr_id (show -2147483648 ≤ s + g 11 (43 + w 851 (34 * t + i)) ∧ s + g 11 (43 + w 851 (34 * t + i)) < 2147483648 by omega), wr_id (show -2147483648 ≤ i + 1 ∧ i + 1 < 2147483648 by omega), e45]
        refine Or.inl ⟨(se_ u 808 809 (w 854 (34 * t + i)) (w1 865 i) (w1 864 i), s + g 11 (43 + w 851 (34 * t + i)), up_ w2 814 45 (wr_ (w 814 45 + g 11 (43 + w 851 (34 * t + i))))), rfl, ⟨by omega, by dsimp only; omega, by dsimp only; omega⟩, fun a k h1 h2 => ?_, fun a k h1 h2 h3 h4 h5 h6 h8 => ?_, ?_, ?_⟩
        · dsimp only
          rw [se_o ⟨h1, h2⟩]; exact G1 a k h1 h2
        · dsimp only
          rw [up_n (by omega), H a k h1 h2 (by omega), d2 a k (by omega) (by omega)]
          exact G2 a k h1 h2 h3 h4 h5 h6 h8
        · dsimp only
          refine RC_fr (RC_se (X := up_ (up_ w1 814 40 (w1 864 i)) 814 41 (w1 865 i)) hRu (fun k => ⟨?_, ?_⟩) d10 d9 d8) (fun _ => rfl) (fun _ => rfl) (fun k => ?_) (fun k => ?_)
          · rw [up_n (by omega), up_n (by omega)]; exact F _ _ (by decide) (by decide) (by decide) (by decide) (by decide)
          · rw [up_n (by omega), up_n (by omega)]; exact F _ _ (by decide) (by decide) (by decide) (by decide) (by decide)
          · rw [up_n (by omega), g2, F 854 _ (by decide) (by decide) (by decide) (by decide) (by decide)]
          · rw [up_n (by omega), g2, F 854 _ (by decide) (by decide) (by decide) (by decide) (by decide)]
        · dsimp only
          rw [up_s ⟨rfl, rfl⟩]
          exact wr_add hcu _
      · rw [if_neg c, if_neg c]
        unfold fX6_fault
        rw [lt_d, lt_d, bd_s]
        refine Or.inr ⟨_, w1, rfl, ?_, fun a k h1 h2 h3 h4 h5 h6 h8 => ?_, fun a k h1 h2 h3 => ?_, ?_, ?_, ?_⟩ <;> (try dsimp only)
        · exact RC_fr hRu (fun k => by rw [up_n (by omega), up_n (by omega)]) (fun k => by rw [up_n (by omega), up_n (by omega)]) (fun k => d2 _ _ (by omega) (by omega)) (fun k => d2 _ _ (by omega) (by omega))
        · rw [d2 a k (by omega) (by omega)]
          exact G2 a k h1 h2 h3 h4 h5 h6 h8
        · rw [up_n (by omega), up_n (by omega)]
          exact G1 a k h1 h2
        · rw [up_n (by omega)]; exact up_s ⟨rfl, rfl⟩
        · exact up_s ⟨rfl, rfl⟩
        · rw [up_n (by omega), up_n (by omega)]
          exact G1 _ _ (by decide) (by decide)
    · rw [if_pos (show vr 858 (34 * t + i) ≤ vr 858 (34 * t + j) from Classical.byContradiction fun z => q2 ⟨hs, hi, by omega⟩), if_pos q, lt_d, lt_d, wr_id (by omega)]
      exact Or.inl ⟨(u, s, w), rfl, ⟨by omega, s0, by dsimp only; omega⟩, G1, G2, hRu, hcu⟩) (fun n ⟨u, s, w⟩ _ => by
    try dsimp only
    rw [fX6_doCopied_18, if_pos (Int.le_refl _), lt_d, fX12_copiedDone_2, if_pos (Int.le_refl _)]) j.toNat fu_ 0 (vc, vr 858 (34 * t + j) + 1, vr) ⟨⟨by decide, by dsimp only; omega, by dsimp only; omega⟩, fun _ _ _ _ => rfl, fun _ _ _ _ _ _ _ _ _ => rfl, hR, hc⟩ (by omega) (by unfold fu_; omega) with ⟨⟨u, s, w⟩, e, -, G1, G2, hRu, hcu⟩ | ⟨vc', vr', e, x1, x2, x3, x4, x5, x6⟩
  · obtain ⟨u1, u2⟩ := Prod.mk.inj e
    dsimp only at G1 G2 hRu hcu
    have e5 : u 807 5 = vc 807 5 := G1 _ _ (by decide) (by decide)
    refine ⟨_, _, 1, u1, u2, RC_fr hRu (fun k => up_n (by omega)) (fun k => up_n (by omega)) (fun _ => rfl) (fun _ => rfl), G2, fun a k q q2 q3 => (up_n (by omega)).trans (G1 a k q q2), Or.inl ⟨rfl, (up_n (by decide)).trans (G1 _ _ (by decide) (by decide)), (up_n (by decide)).trans (G1 _ _ (by decide) (by decide)), ?_⟩⟩
    rw [up_s ⟨rfl, rfl⟩]
    dsimp only
    rw [e5]
    exact hcu
  · obtain ⟨u1, u2⟩ := Prod.mk.inj e
    exact ⟨vc', vr', 0, u1, u2, x1, x2, x3, Or.inr ⟨rfl, x4, x5, x6⟩⟩
