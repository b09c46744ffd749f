/-! layer 2: a fast run, from its beginning -/
theorem fast_T {g vc vr : V_} {p : Int} (hw : WF_ g) (hg : RG_ g) (hC : C_ vc p g) (hD : D_ vr g) (hP : PL_ g p vc vr) (hr : ∀ k, 0 ≤ k → k < 14 → vc 141 k = vr 838 k ∧ iR_ (vr 838 k)) : ∃ vc' vr' how, fX6_goFast 807 p 140 189 vc = some (0, vc') ∧ fX12_runsFast 814 vr = some (how, vr') ∧ FO_ vc' vr' how ∧ Fa_ 807 vc vc' ∧ Fz_ vr vr' := by
  obtain ⟨w, e1, f1, a1, a2, a3, a4, a5, a6, a7, a8, a9⟩ := cbegin_e (x0 := 807) (Or.inr rfl) hC.1 vc
  obtain ⟨z0, e2, f2, b1, b2, b3, b4, b5⟩ := rfrom_e vr
  unfold fX6_goFast fX12_runsFast
  rw [e1, bd_s, e2, bd_s, lt_d, lt_d]
  have hn := hw.1
  have r1 : ∀ a k, ¬ (a = 814 ∧ (k = 75 ∨ k = 76)) → up_ (up_ z0 814 75 0) 814 76 0 a k = z0 a k := fun a k h => by rw [up_n (by omega), up_n (by omega)]
  have r2 : up_ (up_ z0 814 75 0) 814 76 0 814 75 = 0 := by rw [up_n (by omega), up_s ⟨rfl, rfl⟩]
  have r3 : up_ (up_ z0 814 75 0) 814 76 0 814 76 = 0 := up_s ⟨rfl, rfl⟩
  dsimp only
  generalize up_ (up_ z0 814 75 0) 814 76 0 = z at r1 r2 r3 ⊢
  have F2 : Fz_ vr z := fun a k h1 h2 h3 => (r1 a k (by omega)).trans (f2 a k (by omega) (by omega))
  obtain ⟨hT, ⟨L, -, -, hP2⟩, -⟩ := hP
  have hF : PF_ g L p w z := PF_fr hw ⟨hC, hD, hT, hP2⟩ f1 F2
  have hR : RC_ w 807 z := begin_T hr a1 (fun k k0 k1 => (a2 k k0 k1).1) (fun k k0 k1 => (r1 _ _ (by omega)).trans (b1 k k0 k1)) (fun k k0 k1 => (r1 _ _ (by omega)).trans (b2 k k0 k1).1)
  have hTR : TR_ w z := ⟨a5.trans ((r1 _ _ (by omega)).trans b4).symm, a6.trans ((r1 _ _ (by omega)).trans b5).symm, a7.trans r2.symm, a8.trans r3.symm⟩
  have e46 : z 814 46 = 0 := (r1 _ _ (by omega)).trans b5
  have key : ∀ b, NX_ (g 0 0) (w 807 9) b → ∃ vc' vr' how, fX6_goFast_9 fu_ 807 p 140 189 0 w = some (0, vc') ∧ fX12_runsFast_33 fu_ 814 b z = some (how, vr') ∧ FO_ vc' vr' how ∧ Fa_ 807 vc vc' ∧ Fz_ vr vr' := fun b hN => by
    obtain ⟨vc', vr', how, u1, u2, u3, u4, u5⟩ := fast_loop hw hg 200 fu_ fu_ 0 b w z hF hR hTR a4 hN (by decide) (by omega) (by omega) (by decide) (by decide) (by decide)
    exact ⟨vc', vr', how, u1, u2, u3, Fa_tr f1 u4, Fz_tr F2 u5⟩
  have hs := hF.2.1.1
  have hb0 := hF.2.1.2.1
  rw [ck_t (by omega), show (814 + 9 : Int) = 823 from rfl]
  have hp0 := hC.2.1
  by_cases c : g 0 0 = 0
  · rw [if_pos (hb0.trans c)]
    exact key (-2) (Or.inl ⟨by rw [a9, if_pos (by omega)], by decide, by decide⟩)
  · rw [if_neg (by rw [hb0]; exact c)]
    exact key 0 (Or.inr (by rw [a9, if_neg (by omega)]; omega))
