/-! layer 2: what is known, and kept -/
theorem PL_fr {g vc vr wc wr : V_} {p : Int} (hw : WF_ g) (hC : C_ vc p g) (hD : D_ vr g) (hD' : D_ wr g) (h : PL_ g p vc vr) (fc : ∀ a k, 189 ≤ a → a < 800 → ¬ (194 ≤ a ∧ a ≤ 199) → wc a k = vc a k) (f5 : ∀ k, wc (p + 5) k = vc (p + 5) k) (fr : ∀ a k, 843 ≤ a → a ≤ 860 → wr a k = vr a k) (f52 : wr 814 52 = vr 814 52) : PL_ g p wc wr := by
  obtain ⟨hT, ⟨L, hL, hB, hP⟩, hj, hJ, hU⟩ := h
  have t2 := hT.2.1
  have F : ∀ a k, 200 ≤ a → a < 800 → wc a k = vc a k := fun a k q q2 => fc a k (by omega) q2 (by omega)
  have hT1 : TP_ g vc wr := TP_fr hT rfl (fun _ _ _ _ => rfl) (fun _ _ _ _ => ⟨rfl, rfl⟩) (fun a k q q2 => fr a k (by omega) (by omega)) f52
  have hT2 : TP_ g wc wr := TP_fr hT (fc _ _ (by omega) (by omega) (by omega)) (fun a k q q2 => fc a k (by omega) (by omega) (by omega)) (fun s k s0 s1 => ⟨F _ _ (by omega) (by omega), F _ _ (by omega) (by omega)⟩) (fun a k q q2 => fr a k (by omega) (by omega)) f52
  have e1 : wc 189 1 = vc 189 1 := fc _ _ (by omega) (by omega) (by omega)
  obtain ⟨u, u1, -, u3, -⟩ := joined_T hw hC hD hT
  obtain ⟨u', u1', -, u3', -⟩ := joined_T hw hC hD' hT1
  have eu : u' = u := (Prod.mk.inj (Option.some.inj (u1'.symm.trans u1))).2
  have ej : u 189 1 = vc 189 1 := (Prod.mk.inj (Option.some.inj (u3.symm.trans hj))).1
  refine ⟨hT2, ⟨L, hL, fun b b0 b1 => ?_, fun s s0 s1 => ?_⟩, ?_, ?_, fun k k0 k1 => ?_⟩
  · rw [f5, fr 843 _ (by omega) (by omega)]
    exact hB b b0 b1
  · rw [f52] at s1
    obtain ⟨m, hm⟩ := hP s s0 s1
    exact ⟨m, PT_fr hm (fun a k q q2 => F a k (by omega) (by omega)) (fun k => ⟨fr _ _ (by omega) (by omega), fr _ _ (by omega) (by omega)⟩) ⟨fr _ _ (by omega) (by omega), fr _ _ (by omega) (by omega)⟩ (fun a k q q2 _ _ => fr a k (by omega) (by omega))⟩
  · rw [u3', eu, ej, e1]
  · rw [e1]; exact hJ
  · rw [fc _ _ (by omega) (by omega) (by omega)]
    exact hU k k0 k1
/-- what a fresh plan of the reference writes -/
def Fpl_ (vr w : V_) : Prop := (∀ a k, ¬ (843 ≤ a ∧ a ≤ 863) → ¬ (a = 814 ∧ (k = 52 ∨ k = 69)) → w a k = cp_ vr 837 0 838 0 47 a k) ∧ w 814 69 = 1
/-- the class's plan is good: whatever the reference holds, a fresh plan of it is the class's -/
def Kpl_ (g : V_) (p : Int) (vc : V_) : Prop := ∀ vr, D_ (cp_ vr 837 0 838 0 47) g → vr 814 69 = 0 → ∃ w, fX12_plansAll 814 vr = some (0, w) ∧ PL_ g p vc w ∧ Fpl_ vr w
/-- what a fresh plan of the class writes -/
def Fql_ (vc w : V_) : Prop := (∀ a k, a < 189 ∨ 800 ≤ a → ¬ (a = 1 ∧ k = 11) → w a k = vc a k) ∧ w 1 11 = 1
/-- the reference's plan is good: whatever the class holds, a fresh plan of it is the reference's -/
def Krl_ (g : V_) (p : Int) (vr : V_) : Prop := ∀ vc, C_ vc p g → vc 1 4 = p → LF_ g (vc (p + 5)) → vc 1 11 = 0 → ∃ w, fX11_knownPlan 1 vc = some (189, w) ∧ PL_ g p w vr ∧ Fql_ vc w
/-- the slow run that the class keeps is good -/
def Ksl_ (g vc : V_) : Prop := ∀ vr, D_ vr g → (∀ k, 0 ≤ k → k < 14 → vc 141 k = vr 838 k) → ∃ how w, fX12_runsSlow 814 vr = some (how, w) ∧ SO_ vc 800 w how ∧ Fb_ vr w
/-- the fast run that the class keeps is good -/
def Kfa_ (g : V_) (p : Int) (vc : V_) : Prop := ∀ vr, D_ vr g → PL_ g p vc vr → (∀ k, 0 ≤ k → k < 14 → vc 141 k = vr 838 k) → ∃ how w, fX12_runsFast 814 vr = some (how, w) ∧ FO_ vc w how ∧ Fz_ vr w
/-- what both keep of g -/
def CA_ (g : V_) (p : Int) (vc vr : V_) : Prop := (vc 1 11 = 0 ∨ (vc 1 11 = 1 ∧ Kpl_ g p vc)) ∧ (vr 814 69 = 0 ∨ (vr 814 69 = 1 ∧ D_ vr g ∧ ((vc 1 11 = 1 ∧ PL_ g p vc vr) ∨ (vc 1 11 = 0 ∧ Krl_ g p vr)))) ∧ (vc 1 12 = 0 ∨ (vc 1 12 = 1 ∧ Ksl_ g vc)) ∧ (vc 1 13 = 0 ∨ (vc 1 13 = 1 ∧ vc 1 11 = 1 ∧ Kfa_ g p vc))
theorem FpD {g vr w : V_} (hD : D_ (cp_ vr 837 0 838 0 47) g) (h : Fpl_ vr w) : D_ w g := D_fr hD (h.1 _ _ (by omega) (by omega)) (fun a k q q2 => h.1 _ _ (by omega) (by omega)) (fun k _ _ => h.1 _ _ (by omega) (by omega))
theorem Kpl_fr {g vc wc : V_} {p : Int} (hw : WF_ g) (hC : C_ vc p g) (h : Kpl_ g p vc) (fc : ∀ a k, 189 ≤ a → a < 800 → ¬ (194 ≤ a ∧ a ≤ 199) → wc a k = vc a k) (f5 : ∀ k, wc (p + 5) k = vc (p + 5) k) : Kpl_ g p wc := fun vr hD h0 => by
  obtain ⟨w, e, hP, hF⟩ := h vr hD h0
  exact ⟨w, e, PL_fr hw hC (FpD hD hF) (FpD hD hF) hP fc f5 (fun _ _ _ _ => rfl) rfl, hF⟩
theorem FqC {g vc w : V_} {p : Int} (hw : WF_ g) (hC : C_ vc p g) (h : Fql_ vc w) : C_ w p g := C_fr hw hC (fun a k q q2 => h.1 a k (by omega) (by omega)) (fun k _ _ => h.1 _ _ (by omega) (by omega))
theorem Krl_fr {g vr wr : V_} {p : Int} (hw : WF_ g) (hD : D_ vr g) (hD' : D_ wr g) (h : Krl_ g p vr) (fr : ∀ a k, 843 ≤ a → a ≤ 860 → wr a k = vr a k) (f52 : wr 814 52 = vr 814 52) : Krl_ g p wr := fun vc hC h4 hF h0 => by
  obtain ⟨w, e, hP, hf⟩ := h vc hC h4 hF h0
  exact ⟨w, e, PL_fr hw (FqC hw hC hf) hD hD' hP (fun _ _ _ _ _ => rfl) (fun _ => rfl) fr f52, hf⟩
theorem Ksl_fr {g vc wc : V_} (h : Ksl_ g vc) (f1 : ∀ k, 0 ≤ k → k < 14 → wc 141 k = vc 141 k) (f2 : ∀ a k, 800 ≤ a → a < 807 → wc a k = vc a k) : Ksl_ g wc := fun vr hD hr => by
  obtain ⟨how, w, e, hS, hF⟩ := h vr hD (fun k k0 k1 => (f1 k k0 k1).symm.trans (hr k k0 k1))
  obtain ⟨s1, s2, s3, s4, s5, s6, s7⟩ := hS
  refine ⟨how, w, e, ⟨?_, s2, ?_, ?_, fun k k0 k1 => ?_, fun k k0 k1 => ?_, fun q => ?_⟩, hF⟩
  · rw [f2 _ _ (by omega) (by omega)]; exact s1
  · rw [f2 _ _ (by omega) (by omega)]; exact s3
  · rw [f2 _ _ (by omega) (by omega)]; exact s4
  · rw [f2 _ _ (by omega) (by omega)]; exact s5 k k0 k1
  · rw [f2 _ _ (by omega) (by omega)]; exact s6 k k0 k1
  · exact RC_fr (s7 q) (fun k => f2 _ _ (by omega) (by omega)) (fun k => f2 _ _ (by omega) (by omega)) (fun _ => rfl) (fun _ => rfl)
theorem Kfa_fr {g vc wc : V_} {p : Int} (hw : WF_ g) (hC : C_ wc p g) (h : Kfa_ g p vc) (f1 : ∀ k, 0 ≤ k → k < 14 → wc 141 k = vc 141 k) (f2 : ∀ a k, 807 ≤ a → a < 814 → wc a k = vc a k) (fc : ∀ a k, 189 ≤ a → a < 800 → ¬ (194 ≤ a ∧ a ≤ 199) → wc a k = vc a k) (f5 : ∀ k, wc (p + 5) k = vc (p + 5) k) : Kfa_ g p wc := fun vr hD hP hr => by
  obtain ⟨how, w, e, hS, hF⟩ := h vr hD (PL_fr hw hC hD hD hP (fun a k q q2 q3 => (fc a k q q2 q3).symm) (fun k => (f5 k).symm) (fun _ _ _ _ => rfl) rfl) (fun k k0 k1 => (f1 k k0 k1).symm.trans (hr k k0 k1))
  obtain ⟨s1, s2, ⟨s3, s4, s5, s6⟩, s7⟩ := hS
  refine ⟨how, w, e, ⟨?_, s2, ⟨?_, ?_, ?_, ?_⟩, fun q => ?_⟩, hF⟩
  · rw [f2 _ _ (by omega) (by omega)]; exact s1
  · rw [f2 _ _ (by omega) (by omega)]; exact s3
  · rw [f2 _ _ (by omega) (by omega)]; exact s4
  · rw [f2 _ _ (by omega) (by omega)]; exact s5
  · rw [f2 _ _ (by omega) (by omega)]; exact s6
  · exact RC_fr (s7 q) (fun k => f2 _ _ (by omega) (by omega)) (fun k => f2 _ _ (by omega) (by omega)) (fun _ => rfl) (fun _ => rfl)
theorem plan_K {g vc vr : V_} {p : Int} (hw : WF_ g) (hg : RG_ g) (hC : C_ vc p g) (hp : vc 1 4 = p) (hF : LF_ g (vc (p + 5))) (hD : D_ (cp_ vr 837 0 838 0 47) g) (h11 : vc 1 11 = 0 ∨ (vc 1 11 = 1 ∧ Kpl_ g p vc)) (h69 : vr 814 69 = 0 ∨ (vr 814 69 = 1 ∧ D_ vr g ∧ ((vc 1 11 = 1 ∧ PL_ g p vc vr) ∨ (vc 1 11 = 0 ∧ Krl_ g p vr)))) : ∃ vc' vr', HP_ g p vc vr vc' vr' ∧ vc' 1 11 = 1 ∧ Kpl_ g p vc' ∧ Fpl_ vr vr' ∧ ((vc 1 11 = 1 ∧ vc' = vc) ∨ (vc 1 11 = 0 ∧ Fql_ vc vc' ∧ Krl_ g p vr')) := by
  have laid : vr 814 69 = 1 → fX12_plansAll 814 vr = some (0, cp_ vr 837 0 838 0 47) ∧ Fpl_ vr (cp_ vr 837 0 838 0 47) := fun h => by
    refine ⟨?_, fun _ _ _ _ => rfl, by rw [cp_o (by omega)]; exact h⟩
    unfold fX12_plansAll
    rw [copies_e, bd_s, if_neg (show ¬ cp_ vr 837 0 838 0 47 814 69 = 0 by rw [cp_o (by omega)]; omega)]
  have keepC : ∀ vc1, fX11_knownPlan 1 vc = some (189, vc1) → Fql_ vc vc1 → vc 1 11 = 0 → Kpl_ g p vc1 := fun vc1 e1 e4 h0 vr2 hD2 h2 => by
    obtain ⟨vc2, w2, d1, d2, d3, -, -, d6, d7⟩ := plan_T hw hg hC hp hF hD2 h0 h2
    have ec : vc2 = vc1 := (Prod.mk.inj (Option.some.inj (d1.symm.trans e1))).2
    rw [ec] at d3
    exact ⟨w2, d2, d3, d6, d7⟩
  rcases h11 with h11 | ⟨h11, hK⟩
  · rcases h69 with h69 | ⟨h69, hD1, ⟨z, -⟩ | ⟨-, hR⟩⟩
    · obtain ⟨vc', vr', e1, e2, e3, e4, e5, e6, e7⟩ := plan_T hw hg hC hp hF hD h11 h69
      have hf : Fql_ vc vc' := ⟨e4, e5⟩
      refine ⟨vc', vr', ⟨e1, ⟨0, e2⟩, e3, hw, hg, FqC hw hC hf, ?_, FpD hD ⟨e6, e7⟩⟩, e5, keepC vc' e1 hf h11, ⟨e6, e7⟩, Or.inr ⟨h11, hf, fun vc2 C2 p2 F2 z2 => ?_⟩⟩
      · rw [e4 _ _ (by omega) (by omega)]; exact hp
      · obtain ⟨w2, vr2, d1, d2, d3, d4, d5, -, -⟩ := plan_T hw hg C2 p2 F2 hD z2 h69
        have ec : vr2 = vr' := (Prod.mk.inj (Option.some.inj (d2.symm.trans e2))).2
        rw [ec] at d3
        exact ⟨w2, d1, d3, d4, d5⟩
    · omega
    · obtain ⟨vc', e1, e3, hf⟩ := hR vc hC hp hF h11
      obtain ⟨e2, hF'⟩ := laid h69
      have C' := FqC hw hC hf
      refine ⟨vc', _, ⟨e1, ⟨0, e2⟩, PL_fr hw C' hD1 hD e3 (fun _ _ _ _ _ => rfl) (fun _ => rfl) (fun a k q q2 => cp_o (by omega)) (cp_o (by omega)), hw, hg, C', ?_, hD⟩, hf.2, keepC vc' e1 hf h11, hF', Or.inr ⟨h11, hf, Krl_fr hw hD1 hD hR (fun a k q q2 => cp_o (by omega)) (cp_o (by omega))⟩⟩
      rw [hf.1 _ _ (by omega) (by omega)]; exact hp
  · have e1 : fX11_knownPlan 1 vc = some (189, vc) := by
      unfold fX11_knownPlan
      rw [if_neg (by omega)]
      rfl
    rcases h69 with h69 | ⟨h69, hD1, ⟨-, hP⟩ | ⟨z, -⟩⟩
    · obtain ⟨w, e2, e3, e4⟩ := hK vr hD h69
      exact ⟨vc, w, ⟨e1, ⟨0, e2⟩, e3, hw, hg, hC, hp, FpD hD e4⟩, h11, hK, e4, Or.inl ⟨h11, rfl⟩⟩
    · obtain ⟨e2, hF'⟩ := laid h69
      exact ⟨vc, _, ⟨e1, ⟨0, e2⟩, PL_fr hw hC hD1 hD hP (fun _ _ _ _ _ => rfl) (fun _ => rfl) (fun a k q q2 => cp_o (by omega)) (cp_o (by omega)), hw, hg, hC, hp, hD⟩, h11, hK, hF', Or.inl ⟨h11, rfl⟩⟩
    · omega
