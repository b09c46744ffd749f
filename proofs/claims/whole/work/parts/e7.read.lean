/-! layer 2: a cycle's items read by the class -/
def cz_ (vr : V_) (k : Int) : Int := if vr 852 k = 2 then rv_ (vr 839) (vr 856 k) else fd_ vr k
def cu_ (vr : V_) (k : Int) : Int := rv_ (vr 839) (vr 855 k)
theorem do_c {g u w : V_} {t j : Int} (hE : IE_ g u (207 + 75 * t + 2 * j) w (34 * t + j)) (hk : iln_ w (34 * t + j)) (hR : RC_ u 807 w) : fX6_wouldFault 807 (207 + 75 * t + 2 * j + 1) u = some (fw_ w (34 * t + j), u) ∧ fX6_resultOf 807 (207 + 75 * t + 2 * j + 1) u = some (cz_ w (34 * t + j), u) ∧ fX6_valueOf 807 (u (207 + 75 * t + 2 * j + 1) 2) u = some (cu_ w (34 * t + j), u) ∧ fX6_settle 807 (207 + 75 * t + 2 * j + 1) (cz_ w (34 * t + j)) (cu_ w (34 * t + j)) u = some (0, se_ u 808 809 (w 854 (34 * t + j)) (fc_ w (34 * t + j)) (fd_ w (34 * t + j))) := by
  obtain ⟨hL, hS⟩ := IE_line hE hk
  obtain ⟨a1, a2⟩ := rv_T hR hL.2.2.1
  obtain ⟨b1, b2⟩ := rv_T hR hL.2.2.2
  have dT := dv_T (s := w 852 (34 * t + j)) (o := w 853 (34 * t + j)) (u := rv_ (w 839) (w 855 (34 * t + j))) hR b2
  refine ⟨?_, ?_, ?_, ?_⟩
  · rw [cwf_e hS hL.2, a1, b1]; rfl
  · rw [cres_e hS hL.2 (by rw [a1]; exact a2), a1, b1, dT.1]; rfl
  · rw [hS.2.2.1, cval_e hL.2.2.1, a1]; rfl
  · rw [cset_e hS hL.2]
    unfold cz_ cu_ fd_ fc_
    rw [se_2 hL.2]
    rfl
theorem do_e {g u w : V_} {t j : Int} (hE : IE_ g u (207 + 75 * t + 2 * j) w (34 * t + j)) (hk : w 849 (34 * t + j) = 2 ∨ w 849 (34 * t + j) = 3) (hR : RC_ u 807 w) : fX6_wouldFault 807 (207 + 75 * t + 2 * j + 1) u = some (0, u) ∧ fX6_resultOf 807 (207 + 75 * t + 2 * j + 1) u = some (ew_ (w 852 (34 * t + j)) (rv_ (w 839) (w 855 (34 * t + j))) (rv_ (w 839) (w 856 (34 * t + j))), u) ∧ fX6_valueOf 807 (u (207 + 75 * t + 2 * j + 1) 2) u = some (cu_ w (34 * t + j), u) ∧ fX6_settle 807 (207 + 75 * t + 2 * j + 1) (ew_ (w 852 (34 * t + j)) (rv_ (w 839) (w 855 (34 * t + j))) (rv_ (w 839) (w 856 (34 * t + j)))) (cu_ w (34 * t + j)) u = some (0, u) := by
  obtain ⟨hS, h0, ha, hb⟩ := IE_end hE hk
  obtain ⟨a1, a2⟩ := rv_T hR ha
  obtain ⟨b1, b2⟩ := rv_T hR hb
  have h7 := hS.1
  refine ⟨?_, ?_, ?_, ?_⟩
  · unfold fX6_wouldFault
    rw [if_neg (by omega), if_neg (by omega), if_neg (by omega)]
  · rw [cend_e hS h0 ha hb]
    simp only [Int.reduceAdd] at a1 b1 ⊢
    rw [a1, b1]
  · rw [hS.2.2.1, cval_e ha, a1]; rfl
  · unfold fX6_settle
    rw [if_neg (by omega), if_pos (show u (207 + 75 * t + 2 * j + 1) 1 < 0 by rw [hS.2.1]; decide)]
/-- what the class keeps of the place q, read in a cycle that began with vr -/
def CQ_ (t q : Int) (vc vr u : V_) : Prop := (iln_ vr (34 * t + vc (203 + 75 * t) q) → u 812 q = cz_ vr (34 * t + vc (203 + 75 * t) q)) ∧ (¬ iln_ vr (34 * t + vc (203 + 75 * t) q) → u 812 q = ew_ (vr 852 (34 * t + vc (203 + 75 * t) q)) (rv_ (vr 839) (vr 855 (34 * t + vc (203 + 75 * t) q))) (rv_ (vr 839) (vr 856 (34 * t + vc (203 + 75 * t) q)))) ∧ u 813 q = cu_ vr (34 * t + vc (203 + 75 * t) q)
/-- a guess held back -/
def HG_ (t : Int) (vr : V_) (j k : Int) : Prop := iln_ vr (34 * t + j) ∧ fw_ vr (34 * t + j) = 1 ∧ gu_ vr t j ∧ LS_ vr t j k
def Gu_ (vc u : V_) : Prop := ∀ a k, a ≠ 812 → a ≠ 813 → ¬ (a = 807 ∧ (k = 4 ∨ k = 9 ∨ k = 11)) → u a k = vc a k
theorem rall_T {g vc vr : V_} {L : Int → Int} {t m c a e : Int} (ht : 0 ≤ t ∧ t < 8) (hP : PT_ g L t m vc vr) (hR : RC_ vc 807 vr) (hG : GP_ t m c a e vc vr) (h4 : vc 807 4 = 0) (h11 : 0 ≤ vc 807 11 ∧ vc 807 11 < 9223372036854775808) : ∃ u, fX6_readAll 807 (200 + 75 * t) a e vc = some (0, u) ∧ Gu_ vc u ∧ (∀ q, a ≤ q → q < e → CQ_ t q vc vr u) ∧ ((u 807 4 = 0 ∧ u 807 9 = vc 807 9 ∧ ∀ q, a ≤ q → q < e → ¬ UF_ t c vr (vc (203 + 75 * t) q)) ∨ (u 807 4 = 1 ∧ u 807 9 = -1 ∧ ∃ q, a ≤ q ∧ q < e ∧ UF_ t c vr (vc (203 + 75 * t) q))) ∧ (0 ≤ u 807 11 ∧ u 807 11 < 9223372036854775808) ∧ ∀ k, 0 ≤ k → (bt_ (u 807 11) k = true ↔ (bt_ (vc 807 11) k = true ∨ ∃ q, a ≤ q ∧ q < e ∧ HG_ t vr (vc (203 + 75 * t) q) k)) := by
  have hm := hP.1.1.2.2
  obtain ⟨⟨a0, ae, em⟩, g1, g2, g3⟩ := hG
  unfold fX6_readAll
  obtain ⟨u, e1, -, i1, i2, i3, i4, i5⟩ := lp_s (σ := V_) (F := fun n q u => fX6_readAll_3 n 807 (200 + 75 * t) e q u) (K := fun u => some (0, u)) (e := e) (I := fun x u => a ≤ x ∧ Gu_ vc u ∧ (∀ q, a ≤ q → q < x → CQ_ t q vc vr u) ∧ ((u 807 4 = 0 ∧ u 807 9 = vc 807 9 ∧ ∀ q, a ≤ q → q < x → ¬ UF_ t c vr (vc (203 + 75 * t) q)) ∨ (u 807 4 = 1 ∧ u 807 9 = -1 ∧ ∃ q, a ≤ q ∧ q < x ∧ UF_ t c vr (vc (203 + 75 * t) q))) ∧ (0 ≤ u 807 11 ∧ u 807 11 < 9223372036854775808) ∧ ∀ k, 0 ≤ k → (bt_ (u 807 11) k = true ↔ (bt_ (vc 807 11) k = true ∨ ∃ q, a ≤ q ∧ q < x ∧ HG_ t vr (vc (203 + 75 * t) q) k))) (fun n x u h hx => by
    obtain ⟨x0, G, hA, hB, hb1, hb2⟩ := h
    obtain ⟨⟨o1, o2⟩, -⟩ := hP.2.2.2.2.2.2.2.1.1 x (by omega) (by omega)
    have hc := g2 x x0 hx
    generalize ej : vc (203 + 75 * t) x = j at o1 o2 hc
    have e5 : u (200 + 75 * t + 3) x = j := by rw [G _ _ (by omega) (by omega) (by omega), show 200 + 75 * t + 3 = 203 + 75 * t by omega, ej]
    have xm : x < 34 := by omega
    have IEx : ∀ w', Gu_ vc w' → IE_ g w' (207 + 75 * t + 2 * j) vr (34 * t + j) ∧ RC_ w' 807 vr ∧ w' (207 + 75 * t + 2 * j) 10 = vc (207 + 75 * t + 2 * j) 10 ∧ w' (207 + 75 * t + 2 * j) 6 = vc (207 + 75 * t + 2 * j) 6 := fun w' G' =>
      ⟨((PT_g (wr := vr) ht hP (fun a k _ => G' a k (by omega) (by omega) (by omega)) (fun _ _ _ _ => rfl)).2.1 j o1 o2).1, RC_fr hR (fun k => G' _ _ (by decide) (by decide) (by omega)) (fun k => G' _ _ (by decide) (by decide) (by omega)) (fun _ => rfl) (fun _ => rfl), G' _ _ (by omega) (by omega) (by omega), G' _ _ (by omega) (by omega) (by omega)⟩
    have fin : ∀ U' : V_, Gu_ vc U' → (∀ q, q ≠ x → U' 812 q = u 812 q ∧ U' 813 q = u 813 q) → CQ_ t x vc vr U' → ((U' 807 4 = u 807 4 ∧ U' 807 9 = u 807 9 ∧ ¬ UF_ t c vr j) ∨ (U' 807 4 = 1 ∧ U' 807 9 = -1 ∧ UF_ t c vr j)) → (0 ≤ U' 807 11 ∧ U' 807 11 < 9223372036854775808) → (∀ k, 0 ≤ k → (bt_ (U' 807 11) k = true ↔ (bt_ (u 807 11) k = true ∨ HG_ t vr j k))) → a ≤ x + 1 ∧ Gu_ vc U' ∧ (∀ q, a ≤ q → q < x + 1 → CQ_ t q vc vr U') ∧ ((U' 807 4 = 0 ∧ U' 807 9 = vc 807 9 ∧ ∀ q, a ≤ q → q < x + 1 → ¬ UF_ t c vr (vc (203 + 75 * t) q)) ∨ (U' 807 4 = 1 ∧ U' 807 9 = -1 ∧ ∃ q, a ≤ q ∧ q < x + 1 ∧ UF_ t c vr (vc (203 + 75 * t) q))) ∧ (0 ≤ U' 807 11 ∧ U' 807 11 < 9223372036854775808) ∧ ∀ k, 0 ≤ k → (bt_ (U' 807 11) k = true ↔ (bt_ (vc 807 11) k = true ∨ ∃ q, a ≤ q ∧ q < x + 1 ∧ HG_ t vr (vc (203 + 75 * t) q) k)) := by
      intro U' G' hq hz hf hb hbit
      refine ⟨by omega, G', fun q q0 q1 => ?_, ?_, hb, fun k k0 => ?_⟩
      · by_cases z : q = x
        · rw [z]; exact hz
        · have := hA q q0 (by omega)
          unfold CQ_ at *
          rw [(hq q z).1, (hq q z).2]
          exact this
      · rcases hf with ⟨f1, f2, f3⟩ | ⟨f1, f2, f3⟩
        · rcases hB with ⟨h1, h2, h3⟩ | ⟨h1, h2, q, q0, q1, q2⟩
          · refine Or.inl ⟨f1.trans h1, f2.trans h2, fun q q0 q1 => ?_⟩
            by_cases z : q = x
            · rw [z, ej]; exact f3
            · exact h3 q q0 (by omega)
          · exact Or.inr ⟨f1.trans h1, f2.trans h2, q, q0, by omega, q2⟩
        · exact Or.inr ⟨f1, f2, x, x0, by omega, by rw [ej]; exact f3⟩
      · rw [hbit k k0, hb2 k k0]
        constructor
        · rintro ((z | ⟨q, q0, q1, q2⟩) | z)
          · exact Or.inl z
          · exact Or.inr ⟨q, q0, by omega, q2⟩
          · exact Or.inr ⟨x, x0, by omega, by rw [ej]; exact z⟩
        · rintro (z | ⟨q, q0, q1, q2⟩)
          · exact Or.inl (Or.inl z)
          · by_cases w : q = x
            · rw [w, ej] at q2; exact Or.inr q2
            · exact Or.inl (Or.inr ⟨q, q0, by omega, q2⟩)
    obtain ⟨I1, I2, -, -⟩ := IEx u G
    have ey : 200 + 75 * t + 2 + (5 + 2 * u (200 + 75 * t + 3) x) = 207 + 75 * t + 2 * j := by omega
    have G13 : ∀ z, Gu_ vc (up_ u 812 x z) := fun z a k h1 h2 h3 => (up_n (by omega)).trans (G a k h1 h2 h3)
    have G18 : ∀ z z2, Gu_ vc (up_ (up_ u 812 x z) 813 x z2) := fun z z2 a k h1 h2 h3 => (up_n (by omega)).trans (G13 z a k h1 h2 h3)
    have V : ∀ z z2, (∀ q, q ≠ x → up_ (up_ u 812 x z) 813 x z2 812 q = u 812 q ∧ up_ (up_ u 812 x z) 813 x z2 813 q = u 813 q) ∧ up_ (up_ u 812 x z) 813 x z2 812 x = z ∧ up_ (up_ u 812 x z) 813 x z2 813 x = z2 ∧ ∀ k, up_ (up_ u 812 x z) 813 x z2 807 k = u 807 k := fun z z2 => ⟨fun q n => ⟨by rw [up_n (by omega), up_n (by omega)], by rw [up_n (by omega), up_n (by omega)]⟩, by rw [up_n (by omega), up_s ⟨rfl, rfl⟩], up_s ⟨rfl, rfl⟩, fun k => by rw [up_n (by omega), up_n (by omega)]⟩
    rw [fX6_readAll_3, if_neg (show ¬ e ≤ x by omega), ck_t (by omega), ck_t (by omega), lt_d, ey]
    by_cases l : iln_ vr (34 * t + j)
    · obtain ⟨-, c2, -, -⟩ := do_c I1 l I2
      obtain ⟨J1, J2, -, -⟩ := IEx _ (G13 (cz_ vr (34 * t + j)))
      obtain ⟨-, -, c3, -⟩ := do_c J1 l J2
      obtain ⟨K1, K2, K3, K4⟩ := IEx _ (G18 (cz_ vr (34 * t + j)) (cu_ vr (34 * t + j)))
      obtain ⟨c1, -, -, -⟩ := do_c K1 l K2
      obtain ⟨V1, V2, V3, V4⟩ := V (cz_ vr (34 * t + j)) (cu_ vr (34 * t + j))
      rw [c2, bd_s, ck_t (by omega), lt_d]
      simp only [Int.reduceAdd]
      rw [c3, bd_s, ck_t (by omega), lt_d]
      try dsimp only
      rw [c1, bd_s]
      try dsimp only
      have hz : ∀ U' : V_, U' 812 x = cz_ vr (34 * t + j) → U' 813 x = cu_ vr (34 * t + j) → CQ_ t x vc vr U' := fun U' u1 u2 => by
        unfold CQ_
        rw [ej]
        exact ⟨fun _ => u1, fun n => absurd l n, u2⟩
      rcases wf_01 (vr 852 (34 * t + j)) (vr 853 (34 * t + j)) (rv_ (vr 839) (vr 855 (34 * t + j))) (rv_ (vr 839) (vr 856 (34 * t + j))) with f | f
      · have f' : fw_ vr (34 * t + j) = 0 := f
        rw [if_pos f', lt_d, wr_id (by omega)]
        refine ⟨_, rfl, fin _ (G18 _ _) V1 (hz _ V2 V3) (Or.inl ⟨V4 4, V4 9, fun z => by have := z.2.2.1; omega⟩) (by rw [V4]; exact hb1) fun k k0 => ?_⟩
        rw [V4]
        exact ⟨Or.inl, fun z => z.elim id fun z => by have := z.2.1; omega⟩
      · have f' : fw_ vr (34 * t + j) = 1 := f
        rw [if_neg (show ¬ fw_ vr (34 * t + j) = 0 by omega)]
        rcases (hP.2.2.2.2.2.2.2.2.1.1 j o1 o2).1 with ⟨b1, b2⟩ | ⟨b1, b2⟩
        · have hls := (hP.2.1 j o1 o2).2.1
          obtain ⟨-, i, i0, ij, i2, -⟩ := b2
          have b2' := (hP.2.2.2.2.2.2.2.2.1.1 j o1 o2).1
          have hgu : gu_ vr t j := by
            rcases b2' with ⟨-, z⟩ | ⟨z, -⟩
            · exact z
            · omega
          generalize er : vc (207 + 75 * t + 2 * j) 6 = r at hls K4
          have hr : 0 ≤ r ∧ r < 34 ∧ vr 849 (34 * t + r) = 2 ∧ (r < j) ∧ ∀ i, r < i → i < j → vr 849 (34 * t + i) ≠ 2 := by
            rcases hls with ⟨-, z⟩ | ⟨z1, z2, z3, z4⟩
            · exact absurd i2 (z i i0 ij)
            · exact ⟨z1, by omega, z3, z2, z4⟩
          have lsu : ∀ k, 0 ≤ k → (LS_ vr t j k ↔ k = r) := fun k k0 => ⟨fun z => by
            rcases z with ⟨z, -⟩ | ⟨z1, z2, z3, z4⟩
            · omega
            · rcases (by omega : k < r ∨ k = r ∨ r < k) with w | w | w
              · exact absurd hr.2.2.1 (z4 r w hr.2.2.2.1)
              · exact w
              · exact absurd z3 (hr.2.2.2.2 k w z2), fun z => by
            rw [z]
            exact Or.inr ⟨hr.1, hr.2.2.2.1, hr.2.2.1, hr.2.2.2.2⟩⟩
          obtain ⟨s1, s2⟩ := lset_e (x := u 807 11) (r := r) hb1 ⟨hr.1, hr.2.1⟩
          rw [if_neg (show ¬ up_ (up_ u 812 x (cz_ vr (34 * t + j))) 813 x (cu_ vr (34 * t + j)) (207 + 75 * t + 2 * j) 10 = 0 by omega), K4, V4, lt_d, lt_d, wr_id (by omega)]
          refine ⟨_, rfl, fin _ (fun a k h1 h2 h3 => (up_n (by omega)).trans (G18 _ _ a k h1 h2 h3)) (fun q n => ⟨(up_n (by omega)).trans (V1 q n).1, (up_n (by omega)).trans (V1 q n).2⟩) (hz _ ((up_n (by omega)).trans V2) ((up_n (by omega)).trans V3)) (Or.inl ⟨(up_n (by omega)).trans (V4 4), (up_n (by omega)).trans (V4 9), fun z => z.2.2.2 hgu⟩) (by rw [up_s ⟨rfl, rfl⟩]; exact s1) fun k k0 => ?_⟩
          rw [up_s ⟨rfl, rfl⟩, s2 k k0, Bool.or_eq_true, decide_eq_true_iff]
          exact ⟨fun z => z.elim Or.inl fun z => Or.inr ⟨l, f', hgu, (lsu k k0).2 z⟩, fun z => z.elim Or.inl fun z => Or.inr ((lsu k k0).1 z.2.2.2)⟩
        · rw [if_pos (show up_ (up_ u 812 x (cz_ vr (34 * t + j))) 813 x (cu_ vr (34 * t + j)) (207 + 75 * t + 2 * j) 10 = 0 by omega)]
          unfold fX6_fault
          rw [lt_d, lt_d, bd_s, lt_d, wr_id (by omega)]
          try dsimp only
          refine ⟨_, rfl, fin _ (fun a k h1 h2 h3 => (up_n (by omega)).trans ((up_n (by omega)).trans (G18 _ _ a k h1 h2 h3))) (fun q n => ⟨(up_n (by omega)).trans ((up_n (by omega)).trans (V1 q n).1), (up_n (by omega)).trans ((up_n (by omega)).trans (V1 q n).2)⟩) (hz _ ((up_n (by omega)).trans ((up_n (by omega)).trans V2)) ((up_n (by omega)).trans ((up_n (by omega)).trans V3))) (Or.inr ⟨(up_n (by omega)).trans (up_s ⟨rfl, rfl⟩), up_s ⟨rfl, rfl⟩, hc, l, f', b2⟩) (by rw [up_n (by omega), up_n (by omega), V4]; exact hb1) fun k k0 => ?_⟩
          rw [up_n (by omega), up_n (by omega), V4]
          exact ⟨Or.inl, fun z => z.elim id fun z => absurd z.2.2.1 b2⟩
    · have k2 : vr 849 (34 * t + j) = 2 ∨ vr 849 (34 * t + j) = 3 := by
        obtain ⟨-, -, -, -, -, -, -, -, o⟩ := I1
        rcases o with ⟨o, -⟩ | ⟨o, -⟩ | ⟨o, -⟩ | ⟨o, -⟩ <;> omega
      obtain ⟨-, c2, -, -⟩ := do_e I1 k2 I2
      generalize ez : ew_ (vr 852 (34 * t + j)) (rv_ (vr 839) (vr 855 (34 * t + j))) (rv_ (vr 839) (vr 856 (34 * t + j))) = z at c2
      obtain ⟨J1, J2, -, -⟩ := IEx _ (G13 z)
      obtain ⟨-, -, c3, -⟩ := do_e J1 k2 J2
      obtain ⟨K1, K2, K3, K4⟩ := IEx _ (G18 z (cu_ vr (34 * t + j)))
      obtain ⟨c1, -, -, -⟩ := do_e K1 k2 K2
      obtain ⟨V1, V2, V3, V4⟩ := V z (cu_ vr (34 * t + j))
      rw [c2, bd_s, ck_t (by omega), lt_d]
      simp only [Int.reduceAdd]
      rw [c3, bd_s, ck_t (by omega), lt_d]
      try dsimp only
      rw [c1, bd_s]
      try dsimp only
      rw [if_pos (show (0 : Int) = 0 from rfl), lt_d, wr_id (by omega)]
      refine ⟨_, rfl, fin _ (G18 _ _) V1 ?_ (Or.inl ⟨V4 4, V4 9, fun z => l z.2.1⟩) (by rw [V4]; exact hb1) fun k k0 => ?_⟩
      · unfold CQ_
        rw [ej, V2, V3, ez]
        exact ⟨fun n => absurd n l, fun _ => rfl, rfl⟩
      · rw [V4]
        exact ⟨Or.inl, fun z => z.elim id fun z => absurd z.1 l⟩) (fun n u _ => by
    rw [fX6_readAll_3, if_pos (Int.le_refl _)]) (e - a).toNat fu_ a vc ⟨Int.le_refl _, fun _ _ _ _ _ => rfl, fun q q0 q1 => absurd q0 (by omega), Or.inl ⟨h4, rfl, fun q q0 q1 => absurd q0 (by omega)⟩, h11, fun k _ => ⟨Or.inl, fun z => z.elim id fun ⟨q, q0, q1, _⟩ => absurd q0 (by omega)⟩⟩ (by omega) (by unfold fu_; omega)
  exact ⟨u, e1, i1, i2, i3, i4, i5⟩
