/-! layer 2: set, put, rename, units -/
theorem n10_ : ¬ (1 : Int) = 0 := by decide
theorem pm_inj {k i : Int} (hk : 0 ≤ k ∧ k < 47) (hi : 0 ≤ i ∧ i < 47) (h : pm_ k = pm_ i) : k = i := by
  unfold pm_ at h
  split at h <;> split at h <;> (try split at h) <;> (try split at h) <;> omega
def Fs1_ (u w : V_) : Prop := ∀ b k, ¬ (141 ≤ b ∧ b ≤ 188) → ¬ (b = 1 ∧ 11 ≤ k ∧ k ≤ 13) → w b k = u b k
def Fs2_ (u w : V_) : Prop := ∀ b k, b ≠ 837 → b ≠ 838 → b ≠ 869 → b ≠ 871 → b ≠ 872 → ¬ (b = 814 ∧ (k = 77 ∨ k = 69)) → w b k = u b k
theorem chg_T {vc vr vr1 : V_} (h : RS_ vc vr) (hr : ∀ b k, b ≠ 838 → vr1 b k = vr b k) : ∃ vc1 vr2, fX0_note 142 140 vc = some (0, vc1) ∧ fX12_records 814 vr1 = some (0, vr2) ∧ (∀ k, vc1 141 k = vc 141 k) ∧ (∀ k, vc1 1 k = vc 1 k) ∧ ∀ vc2, (∀ b k, b ≠ 141 → ¬ (b = 1 ∧ 11 ≤ k ∧ k ≤ 13) → vc2 b k = vc1 b k) → RO_ (vc2 141) → (∀ k, 0 ≤ k → k < 47 → vr1 838 (pm_ k) = vc2 141 k) → RS_ vc2 vr2 ∧ Fs1_ vc vc2 ∧ Fs2_ vr vr2 ∧ vr2 814 69 = 0 := by
  obtain ⟨hw, hh, hk⟩ := h
  obtain ⟨vc1, vr2, n1, n2, n3, n4, n5, n6, n7⟩ := note_T hh hw hr
  refine ⟨vc1, vr2, n1, n2, fun k => n4 _ _ (by omega) (by omega), fun k => n4 _ _ (by omega) (by omega), fun vc2 f1 o1 f2 => ⟨⟨⟨o1, fun k k0 k1 => ?_⟩, ?_, ?_⟩, ?_, ?_, n6⟩⟩
  · have := pm_b ⟨k0, k1⟩
    rw [Int.zero_add, n7 _ (by omega) (by omega)]
    exact f2 k k0 k1
  · exact RH_eq n3 (fun b k q => f1 b k (by omega) (by omega)) (fun k => rfl) rfl
  · exact RK_eq hk (fun b k q => (f1 b k (by omega) (by omega)).trans (n4 _ _ (by omega) (by omega))) (fun b k q => (n5 _ _ (by omega) (by omega) (by omega)).trans (hr _ _ (by omega)))
  · intro b k q1 q2
    exact (f1 b k (by omega) q2).trans (n4 _ _ (by omega) (by omega))
  · intro b k q1 q2 q3 q4 q5 q6
    exact (n5 _ _ q3 q1 q6).trans (hr _ _ q2)
/-- one place of the row becomes another value -/
theorem row_T {vc vr : V_} (h : RS_ vc vr) (i y : Int) (hi : 0 ≤ i ∧ i < 47) (ho : RO_ (fun k => if k = i then y else vc 141 k)) : ∃ vc1 vr2, fX0_note 142 140 vc = some (0, vc1) ∧ fX12_records 814 (up_ (cp_ vr 837 0 838 0 47) 838 (pm_ i) y) = some (0, vr2) ∧ (∀ k, vc1 1 k = vc 1 k) ∧ ∀ vc2, (∀ b k, b ≠ 141 → ¬ (b = 1 ∧ 11 ≤ k ∧ k ≤ 13) → vc2 b k = vc1 b k) → (∀ k, vc2 141 k = up_ vc1 141 i y 141 k) → RS_ vc2 vr2 ∧ Fs1_ vc vc2 ∧ Fs2_ vr vr2 ∧ vr2 814 69 = 0 ∧ ∀ k, k ≠ i → vc2 141 k = vc 141 k := by
  obtain ⟨vc1, vr2, n1, n2, n3, n3b, n4⟩ := chg_T (vr1 := up_ (cp_ vr 837 0 838 0 47) 838 (pm_ i) y) h (fun b k q => by rw [up_n (by omega), cp_o (by omega)])
  refine ⟨vc1, vr2, n1, n2, n3b, fun vc2 f1 f2 => ?_⟩
  have e : ∀ k, vc2 141 k = if k = i then y else vc 141 k := fun k => by
    rw [f2]
    by_cases c : k = i
    · rw [if_pos c, up_s ⟨rfl, c⟩]
    · rw [if_neg c, up_n (fun q => c q.2), n3]
  obtain ⟨a1, a2, a3, a4⟩ := n4 vc2 f1 (RO_eq ho (fun k _ _ => e k)) (fun k k0 k1 => by
    have := pm_b ⟨k0, k1⟩
    rw [e]
    by_cases c : k = i
    · rw [if_pos c, up_s ⟨rfl, by rw [c]⟩]
    · rw [if_neg c, up_n (fun q => c (pm_inj ⟨k0, k1⟩ hi q.2)), cp_i ⟨rfl, by omega, by omega⟩, ← h.1.2 k k0 k1]
      congr 1
      omega)
  exact ⟨a1, a2, a3, a4, fun k c => by rw [e, if_neg c]⟩
theorem RO_low {f : Int → Int} {i y : Int} (h : RO_ f) (hi : 0 ≤ i ∧ i < 14) (hy : iR_ y) : RO_ (fun k => if k = i then y else f k) := by
  obtain ⟨h1, h2, h3, h4, h5⟩ := h
  refine ⟨by dsimp only; rw [if_neg (by omega)]; exact h1, fun k a b => ?_, fun k a b => ?_, fun k a b => ?_, fun k a b => ?_⟩
  · dsimp only
    split
    · exact hy
    · exact h2 k a b
  · dsimp only; rw [if_neg (by omega)]; exact h3 k a b
  · dsimp only; rw [if_neg (by omega)]; exact h4 k a b
  · dsimp only; rw [if_neg (by omega)]; exact h5 k a b
/-- what a call that changes the state leaves: nothing, or a changed state -/
def Ch_ (vc vr vc' vr' : V_) : Prop := RS_ vc' vr' ∧ Fs1_ vc vc' ∧ Fs2_ vr vr' ∧ vr' 814 69 = 0 ∧ vc' 1 12 = 0 ∧ vc' 1 13 = 0 ∧ (vc' 1 11 = 0 ∨ (vc' 1 11 = vc 1 11 ∧ ∀ k, 14 ≤ k → vc' 141 k = vc 141 k))
theorem low_T {vc vr : V_} (h : RS_ vc vr) {i y : Int} (hi : 0 ≤ i ∧ i < 14) (hy : iR_ y) (hne : vc 141 i ≠ y) : ∃ vc1 vr', fX0_note 142 140 vc = some (0, vc1) ∧ fX12_becomes 814 i y vr = some (1, vr') ∧ Ch_ vc vr (up_ (up_ (up_ vc1 141 i y) 1 12 0) 1 13 0) vr' := by
  have ep : pm_ i = i := if_pos (by omega)
  obtain ⟨vc1, vr2, n1, n2, n3, n4⟩ := row_T h i y (by omega) (RO_low h.1.1 hi hy)
  obtain ⟨a1, a2, a3, a4, a5⟩ := n4 (up_ (up_ (up_ vc1 141 i y) 1 12 0) 1 13 0) (fun b k q1 q2 => by rw [up_n (by omega), up_n (by omega), up_n (by omega)]) (fun k => by rw [up_n (by omega), up_n (by omega)])
  refine ⟨vc1, vr2, n1, ?_, a1, a2, a3, a4, ?_, up_s ⟨rfl, rfl⟩, Or.inr ⟨?_, fun k q => a5 k (by omega)⟩⟩
  · unfold fX12_becomes
    have e := h.1.2 i (by omega) (by omega)
    rw [ep, Int.zero_add] at e
    rw [ep] at n2
    rw [ck_t (by omega), if_neg (show ¬ vr (814 + 23) i = y from fun q => hne (e.symm.trans q)), copies_e, bd_s, ck_t (by omega), lt_d]
    show bd_ (fX12_records 814 (up_ (cp_ vr 837 0 838 0 47) 838 i y)) _ = _
    rw [n2, bd_s]
  · rw [up_n (by omega), up_s ⟨rfl, rfl⟩]
  · rw [up_n (by omega), up_n (by omega), up_n (by omega)]
    exact n3 11
theorem set_T {vc vr : V_} (h : RS_ vc vr) (x y : Int) (hy : iR_ y) : ∃ r vc' vr', fX11_set 1 x y vc = some (r, vc') ∧ fX12_set 814 x y vr = some (r, vr') ∧ ((vc' = vc ∧ vr' = vr) ∨ Ch_ vc vr vc' vr') := by
  unfold fX11_set fX12_set fX11_isRegister fX12_in
  by_cases c1 : x < 0
  · exact ⟨0, vc, vr, by rw [if_pos c1, bd_s, if_pos rfl], by rw [if_pos c1, bd_s, if_pos rfl], Or.inl ⟨rfl, rfl⟩⟩
  · by_cases c2 : 6 ≤ x
    · exact ⟨0, vc, vr, by rw [if_neg c1, if_pos c2, bd_s, if_pos rfl], by rw [if_neg c1, if_pos (by omega), bd_s, if_pos rfl], Or.inl ⟨rfl, rfl⟩⟩
    · rw [if_neg c1, if_neg c2, if_neg c1, if_neg (by omega), bd_s, bd_s, if_neg n10_, if_neg n10_]
      unfold fX7_register
      rw [ck_t (by omega), bd_s]
      have e := h.1.2 x (by omega) (by omega)
      rw [show pm_ x = x from if_pos (by omega), Int.zero_add] at e
      by_cases c3 : vc 141 x = y
      · refine ⟨0, vc, vr, if_pos c3, ?_, Or.inl ⟨rfl, rfl⟩⟩
        unfold fX12_becomes
        rw [ck_t (by omega), if_pos (show vr (814 + 23) x = y from e.trans c3), bd_s, if_pos rfl]
      · obtain ⟨vc1, vr', n1, n2, n3⟩ := low_T h (i := x) (by omega) hy c3
        refine ⟨1, _, vr', ?_, ?_, Or.inr n3⟩
        · refine (if_neg c3).trans ?_
          show bd_ (fX0_note 142 140 vc) _ = _
          rw [n1, bd_s]
          unfold fX7_setRegister fX11_forgetRuns
          rw [ck_t (by omega), lt_d, bd_s, lt_d, lt_d, bd_s]
          rfl
        · rw [n2, bd_s, if_neg n10_]
