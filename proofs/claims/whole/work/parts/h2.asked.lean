/-! layer 2: runs asked for, in both -/
/-- what stands before a question -/
def CX_ (g : V_) (p : Int) (vc vr : V_) : Prop := WF_ g ∧ RG_ g ∧ C_ vc p g ∧ vc 1 4 = p ∧ LF_ g (vc (p + 5)) ∧ D_ (cp_ vr 837 0 838 0 47) g ∧ (∀ k, 0 ≤ k → k < 14 → vr 837 k = vc 141 k ∧ iR_ (vc 141 k)) ∧ CA_ g p vc vr
def Q1_ (vc w : V_) : Prop := ∀ a k, a < 189 ∨ 814 ≤ a → ¬ (a = 1 ∧ 11 ≤ k ∧ k ≤ 13) → w a k = vc a k
def Q2_ (vr w : V_) : Prop := ∀ a k, a ≤ 837 ∨ a = 869 ∨ 871 ≤ a → ¬ (a = 814 ∧ ((40 ≤ k ∧ k ≤ 46) ∨ k = 52 ∨ k = 69 ∨ k = 75 ∨ k = 76)) → w a k = vr a k
def QX_ (g : V_) (p : Int) (vc vr vc' vr' : V_) : Prop := CA_ g p vc' vr' ∧ Q1_ vc vc' ∧ Q2_ vr vr'
theorem Q1_r {u : V_} : Q1_ u u := fun _ _ _ _ => rfl
theorem Q2_r {u : V_} : Q2_ u u := fun _ _ _ _ => rfl
theorem Q1_tr {u v w : V_} (h : Q1_ u v) (h2 : Q1_ v w) : Q1_ u w := fun a k q q2 => (h2 a k q q2).trans (h a k q q2)
theorem Q2_tr {u v w : V_} (h : Q2_ u v) (h2 : Q2_ v w) : Q2_ u w := fun a k q q2 => (h2 a k q q2).trans (h a k q q2)
theorem CA_r {g vc vr wr : V_} {p : Int} (hw : WF_ g) (hC : C_ vc p g) (h : CA_ g p vc vr) (hD : D_ wr g) (e69 : wr 814 69 = vr 814 69) (fr : ∀ a k, 843 ≤ a → a ≤ 860 → wr a k = vr a k) (f52 : wr 814 52 = vr 814 52) : CA_ g p vc wr := by
  obtain ⟨h1, h2, h3, h4⟩ := h
  refine ⟨h1, ?_, h3, h4⟩
  rw [e69]
  rcases h2 with h2 | ⟨h2, hD0, ⟨h5, h6⟩ | ⟨h5, h6⟩⟩
  · exact Or.inl h2
  · exact Or.inr ⟨h2, hD, Or.inl ⟨h5, PL_fr hw hC hD0 hD h6 (fun _ _ _ _ _ => rfl) (fun _ => rfl) fr f52⟩⟩
  · exact Or.inr ⟨h2, hD, Or.inr ⟨h5, Krl_fr hw hD0 hD h6 fr f52⟩⟩
theorem CA_c {g vc wc vr : V_} {p : Int} (hw : WF_ g) (hC : C_ vc p g) (h : CA_ g p vc vr) (f : ∀ a k, a < 800 → ¬ (194 ≤ a ∧ a ≤ 199) → ¬ (a = 1 ∧ (k = 12 ∨ k = 13)) → wc a k = vc a k) (h12 : wc 1 12 = 0 ∨ (wc 1 12 = 1 ∧ Ksl_ g wc)) (h13 : wc 1 13 = 0 ∨ (wc 1 13 = 1 ∧ wc 1 11 = 1 ∧ Kfa_ g p wc)) : CA_ g p wc vr := by
  obtain ⟨h1, h2, -, -⟩ := h
  have hp := hC.1
  have e11 : wc 1 11 = vc 1 11 := f _ _ (by omega) (by omega) (by omega)
  refine ⟨?_, ?_, h12, h13⟩
  · rw [e11]
    rcases h1 with h1 | ⟨h1, h5⟩
    · exact Or.inl h1
    · exact Or.inr ⟨h1, Kpl_fr hw hC h5 (fun a k q q2 q3 => f a k q2 q3 (by omega)) (fun k => f _ _ (by omega) (by omega) (by omega))⟩
  · rw [e11]
    rcases h2 with h2 | ⟨h2, hD0, ⟨h5, h6⟩ | h5⟩
    · exact Or.inl h2
    · exact Or.inr ⟨h2, hD0, Or.inl ⟨h5, PL_fr hw hC hD0 hD0 h6 (fun a k q q2 q3 => f a k q2 q3 (by omega)) (fun k => f _ _ (by omega) (by omega) (by omega)) (fun _ _ _ _ => rfl) rfl⟩⟩
    · exact Or.inr ⟨h2, hD0, Or.inr h5⟩
/-- a plan asked for -/
theorem plan_X {g vc vr : V_} {p : Int} (h : CX_ g p vc vr) : ∃ vc' vr', HP_ g p vc vr vc' vr' ∧ QX_ g p vc vr vc' vr' ∧ (∀ k, 0 ≤ k → k < 47 → vr' 838 k = vr 837 k) ∧ vc' 1 11 = 1 ∧ (∀ a k, 800 ≤ a → vc' a k = vc a k) ∧ vc' 1 12 = vc 1 12 ∧ (vc 1 13 = 0 ∨ (vc 1 13 = 1 ∧ vc' = vc ∧ Kfa_ g p vc)) ∧ Fpl_ vr vr' ∧ ((vc 1 11 = 1 ∧ vc' = vc) ∨ (vc 1 11 = 0 ∧ Fql_ vc vc' ∧ Krl_ g p vr')) := by
  obtain ⟨hw, hg, hC, hp, hF, hD, hr, h11, h69, h12, h13⟩ := h
  obtain ⟨vc', vr', H, z11, hK, hf, d⟩ := plan_K hw hg hC hp hF hD h11 h69
  have hpb := hC.1
  have all : ∀ a k, a < 189 ∨ 800 ≤ a → ¬ (a = 1 ∧ k = 11) → vc' a k = vc a k := by
    rcases d with ⟨-, d⟩ | ⟨-, d, -⟩
    · intro a k _ _
      rw [d]
    · exact d.1
  have e13 : vc 1 13 = 0 ∨ (vc 1 13 = 1 ∧ vc' = vc ∧ Kfa_ g p vc) := by
    rcases h13 with q | ⟨q, q2, q3⟩
    · exact Or.inl q
    · rcases d with ⟨-, d⟩ | ⟨d, -⟩
      · exact Or.inr ⟨q, d, q3⟩
      · omega
  refine ⟨vc', vr', H, ⟨⟨Or.inr ⟨z11, hK⟩, Or.inr ⟨hf.2, H.2.2.2.2.2.2.2, Or.inl ⟨z11, H.2.2.1⟩⟩, ?_, ?_⟩, fun a k q q2 => all a k (by omega) (by omega), fun a k q q2 => ?_⟩, fun k k0 k1 => ?_, z11, fun a k q => all a k (by omega) (by omega), all _ _ (by omega) (by omega), e13, hf, d⟩
  · rw [all 1 12 (by omega) (by omega)]
    rcases h12 with q | ⟨q, q2⟩
    · exact Or.inl q
    · exact Or.inr ⟨q, Ksl_fr q2 (fun k _ _ => all _ _ (by omega) (by omega)) (fun a k q _ => all _ _ (by omega) (by omega))⟩
  · rw [all 1 13 (by omega) (by omega)]
    rcases e13 with q | ⟨q, q2, q3⟩
    · exact Or.inl q
    · exact Or.inr ⟨q, z11, by rw [q2]; exact q3⟩
  · rw [hf.1 a k (by omega) (by omega)]
    exact cp_o (by omega)
  · rw [hf.1 _ _ (by omega) (by omega), cp_i ⟨rfl, k0, by omega⟩]
    congr 1
    omega
theorem slow_X {g vc vr : V_} {p : Int} (h : CX_ g p vc vr) : ∃ vc1, fX11_knownSlow 1 vc = some (800, vc1) ∧ CX_ g p vc1 vr ∧ Ksl_ g vc1 ∧ Q1_ vc vc1 := by
  obtain ⟨hw, hg, hC, hp, hF, hD, hr, hA⟩ := h
  have hpb := hC.1
  have hrr : ∀ k, 0 ≤ k → k < 14 → vc 141 k = cp_ vr 837 0 838 0 47 838 k ∧ iR_ (cp_ vr 837 0 838 0 47 838 k) := fun k k0 k1 => by
    have e : cp_ vr 837 0 838 0 47 838 k = vr 837 k := by
      rw [cp_i ⟨rfl, k0, by omega⟩]
      congr 1
      omega
    rw [e, (hr k k0 k1).1]
    exact ⟨rfl, (hr k k0 k1).2⟩
  obtain ⟨vc1, e1, e2, e3, e4⟩ := slow_K hw hC hp hD hrr hA.2.2.1
  have C1 : C_ vc1 p g := C_fr hw hC (fun a k q q2 => e4 _ _ (by omega) (by omega)) (fun k _ _ => e4 _ _ (by omega) (by omega))
  have h13 : vc1 1 13 = 0 ∨ (vc1 1 13 = 1 ∧ vc1 1 11 = 1 ∧ Kfa_ g p vc1) := by
    rw [e4 1 13 (by omega) (by omega), e4 1 11 (by omega) (by omega)]
    rcases hA.2.2.2 with q | ⟨q, q2, q3⟩
    · exact Or.inl q
    · exact Or.inr ⟨q, q2, Kfa_fr hw C1 q3 (fun k _ _ => e4 _ _ (by omega) (by omega)) (fun a k _ _ => e4 _ _ (by omega) (by omega)) (fun a k _ _ _ => e4 _ _ (by omega) (by omega)) (fun k => e4 _ _ (by omega) (by omega))⟩
  refine ⟨vc1, e1, ⟨hw, hg, C1, ?_, ?_, hD, fun k k0 k1 => ?_, CA_c hw hC hA (fun a k q _ q2 => e4 _ _ (by omega) (by omega)) (Or.inr ⟨e2, e3⟩) h13⟩, e3, fun a k q q2 => e4 _ _ (by omega) (by omega)⟩
  · rw [e4 _ _ (by omega) (by omega)]; exact hp
  · have e : vc1 (p + 5) = vc (p + 5) := funext fun k => e4 _ _ (by omega) (by omega)
    rw [e]; exact hF
  · rw [e4 _ _ (by omega) (by omega)]; exact hr k k0 k1
theorem fast_X {g vc vr : V_} {p : Int} (h : CX_ g p vc vr) : ∃ vc2 vr1, fX11_knownFast 1 vc = some (807, vc2) ∧ (∃ z, fX12_plansAll 814 vr = some (z, vr1)) ∧ PL_ g p vc2 vr1 ∧ D_ vr1 g ∧ (∀ k, 0 ≤ k → k < 14 → vc2 141 k = vr1 838 k) ∧ Kfa_ g p vc2 ∧ C_ vc2 p g ∧ QX_ g p vc vr vc2 vr1 ∧ ∀ a k, 800 ≤ a → a < 807 → vc2 a k = vc a k := by
  have h' := h
  obtain ⟨hw, hg, hC, hp, hF, hD, hr, hA⟩ := h'
  have hpb := hC.1
  obtain ⟨vc1, vr1, H, ⟨A1, F1, F2⟩, r38, z11, f8, -, h13, hf, -⟩ := plan_X h
  have H' := H
  obtain ⟨-, e0, hP, -, -, C1, hp1, hD1⟩ := H'
  have rows : ∀ k, 0 ≤ k → k < 14 → vc1 141 k = vr1 838 k ∧ iR_ (vr1 838 k) := fun k k0 k1 => by
    rw [r38 k k0 (by omega), F1 _ _ (by omega) (by omega), (hr k k0 k1).1]
    exact ⟨rfl, (hr k k0 k1).2⟩
  obtain ⟨vc2, e1, e2, e3, e4⟩ := fast_K hp H rows h13
  have C2 : C_ vc2 p g := C_fr hw C1 (fun a k q q2 => e4 _ _ (by omega) (by omega)) (fun k _ _ => e4 _ _ (by omega) (by omega))
  have hP2 : PL_ g p vc2 vr1 := PL_fr hw C1 hD1 hD1 hP (fun a k q q2 _ => e4 _ _ (by omega) (by omega)) (fun k => e4 _ _ (by omega) (by omega)) (fun _ _ _ _ => rfl) rfl
  have h12 : vc2 1 12 = 0 ∨ (vc2 1 12 = 1 ∧ Ksl_ g vc2) := by
    rw [e4 1 12 (by omega) (by omega)]
    rcases A1.2.2.1 with q | ⟨q, q2⟩
    · exact Or.inl q
    · exact Or.inr ⟨q, Ksl_fr q2 (fun k _ _ => e4 _ _ (by omega) (by omega)) (fun a k _ _ => e4 _ _ (by omega) (by omega))⟩
  have A2 : CA_ g p vc2 vr1 := CA_c hw C1 A1 (fun a k q _ q2 => e4 _ _ (by omega) (by omega)) h12 (Or.inr ⟨e2, by rw [e4 1 11 (by omega) (by omega)]; exact z11, e3⟩)
  refine ⟨vc2, vr1, e1, e0, hP2, hD1, fun k k0 k1 => ?_, e3, C2, ⟨A2, fun a k q q2 => (e4 a k (by omega) (by omega)).trans (F1 a k q q2), F2⟩, fun a k q q2 => (e4 a k (by omega) (by omega)).trans (f8 a k q)⟩
  rw [e4 _ _ (by omega) (by omega)]
  exact (rows k k0 k1).1
/-- behind a slow run of the reference -/
theorem behind_s {g vc vr wr : V_} {p : Int} (hw : WF_ g) (hC : C_ vc p g) (hD : D_ (cp_ vr 837 0 838 0 47) g) (hA : CA_ g p vc vr) (hf : Fb_ (cp_ vr 837 0 838 0 47) wr) : CA_ g p vc wr ∧ Q2_ vr wr := by
  have F : ∀ a k, a < 838 ∨ 842 < a → ¬ (a = 814 ∧ 40 ≤ k ∧ k ≤ 46) → wr a k = vr a k := fun a k q q2 => (hf a k (by omega) q2).trans (cp_o (by omega))
  have D1 : D_ wr g := D_fr hD (hf _ _ (by omega) (by omega)) (fun a k q q2 => hf _ _ (by omega) (by omega)) (fun k _ _ => hf _ _ (by omega) (by omega))
  exact ⟨CA_r hw hC hA D1 (F _ _ (by omega) (by omega)) (fun a k q q2 => F _ _ (by omega) (by omega)) (F _ _ (by omega) (by omega)), fun a k q q2 => F a k (by omega) (by omega)⟩
/-- behind a fast run of the reference -/
theorem behind_f {g vc vr wr : V_} {p : Int} (hw : WF_ g) (hC : C_ vc p g) (hD : D_ vr g) (hA : CA_ g p vc vr) (hf : Fz_ vr wr) : CA_ g p vc wr ∧ Q2_ vr wr := by
  have D1 : D_ wr g := D_fr hD (hf _ _ (by omega) (by omega) (by omega)) (fun a k q q2 => hf _ _ (by omega) (by omega) (by omega)) (fun k _ _ => hf _ _ (by omega) (by omega) (by omega))
  exact ⟨CA_r hw hC hA D1 (hf _ _ (by omega) (by omega) (by omega)) (fun a k q q2 => hf _ _ (by omega) (by omega) (by omega)) (hf _ _ (by omega) (by omega) (by omega)), fun a k q q2 => hf a k (by omega) (by omega) (by omega)⟩
