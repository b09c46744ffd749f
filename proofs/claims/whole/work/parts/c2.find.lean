/-! layer 2: all needs of a trace, in the class -/
def SB_ (v : V_) (t j r s : Int) : Prop := (s = -1 ∧ ∀ k, 0 ≤ k → k < j → v 854 (34 * t + k) ≠ r) ∨ (0 ≤ s ∧ s < j ∧ v 854 (34 * t + s) = r ∧ ∀ k, s < k → k < j → v 854 (34 * t + k) ≠ r)
def lsx_ (v : V_) (t i j a : Int) : Prop := a = v 854 (34 * t + i) ∧ 0 ≤ v 854 (34 * t + i) ∧ ∀ k, i < k → k < j → v 854 (34 * t + k) ≠ v 854 (34 * t + i)
theorem nws_e {g w vr : V_} {t j a : Int} (ht : 0 ≤ t ∧ t < 8) (hj : 0 ≤ j ∧ j < 34) (ha : VA_ a) (hsb : ∀ r, 0 ≤ r → r < 12 → SB_ vr t j r (w (206 + 75 * t) r)) (hset : ∀ i, 0 ≤ i → i < j → vr 854 (34 * t + i) < 12) (hlat : ∀ i, 0 ≤ i → i < j → w (207 + 75 * t + 2 * i) 3 = lat_ g vr (34 * t + i)) : ∃ w', fX10_needWhatSet (200 + 75 * t) (vl_ a) j w = some (0, w') ∧ (∀ b k, ¬ (b = 204 + 75 * t ∧ ∃ i, 0 ≤ i ∧ i < j ∧ k = 34 * i + j) → w' b k = w b k) ∧ ∀ i l, 0 ≤ i → i < j → MX_ l (w (204 + 75 * t) (34 * i + j)) → MX_ ((lsx_ vr t i j a, lat_ g vr (34 * t + i)) :: l) (w' (204 + 75 * t) (34 * i + j)) := by
  have no : (∀ i, 0 ≤ i → i < j → ¬ lsx_ vr t i j a) → ∃ w', (some (0, w) : Option (Int × V_)) = some (0, w') ∧ (∀ b k, ¬ (b = 204 + 75 * t ∧ ∃ i, 0 ≤ i ∧ i < j ∧ k = 34 * i + j) → w' b k = w b k) ∧ ∀ i l, 0 ≤ i → i < j → MX_ l (w (204 + 75 * t) (34 * i + j)) → MX_ ((lsx_ vr t i j a, lat_ g vr (34 * t + i)) :: l) (w' (204 + 75 * t) (34 * i + j)) := fun hno => ⟨w, rfl, fun _ _ _ => rfl, fun i l i0 i1 h => MX_n h (hno i i0 i1)⟩
  unfold fX10_needWhatSet fX10_needWhatSet_26 fX10_needWhatSet_27 vl_
  unfold VA_ at ha
  by_cases c : a < 20
  · rw [if_pos c, if_neg (by omega), bX_m (show iR_ (-1 - a) by unfold iR_; omega), if_neg (by omega), ck_t (by omega), show -1 - (-1 - a) = a by omega, show 200 + 75 * t + 6 = 206 + 75 * t by omega]
    have hs := hsb a (by omega) (by omega)
    generalize w (206 + 75 * t) a = s at hs
    rcases hs with ⟨s1, s2⟩ | ⟨s1, s2, s3, s4⟩
    · rw [if_pos (by omega)]
      exact no fun i i0 i1 q => s2 i i0 i1 q.1.symm
    · unfold fX10_needOf
      rw [if_neg (by omega), wr_id (show -2147483648 ≤ s * 34 ∧ s * 34 < 2147483648 by omega), wr_id (show -2147483648 ≤ s * 34 + j ∧ s * 34 + j < 2147483648 by omega), ck_t (by omega), bd_s, ck_t (by omega), ck_t (by omega), lt_d, show 200 + 75 * t + 4 = 204 + 75 * t by omega, show s * 34 + j = 34 * s + j by omega, show (200 + 75 * t + 2) + (5 + 2 * s) = 207 + 75 * t + 2 * s by omega]
      try dsimp only
      rw [hlat s s1 s2, mx_e]
      refine ⟨_, rfl, fun b k n => ?_, fun i l i0 i1 h => ?_⟩
      · rw [up_n (fun q => n ⟨q.1, s, s1, s2, q.2⟩)]
      · by_cases e : i = s
        · rw [e] at h ⊢
          rw [up_s ⟨rfl, rfl⟩]
          exact MX_y h ⟨s3.symm, by omega, fun k k0 k1 q => s4 k k0 k1 (q.trans s3)⟩
        · rw [up_n (by omega)]
          refine MX_n h fun q => ?_
          by_cases l : i < s
          · exact q.2.2 s l s2 (s3.trans q.1)
          · exact s4 i (by omega) i1 q.1.symm
  · rw [if_neg c, if_pos (by omega), if_pos (by decide)]
    exact no fun i i0 i1 q => by have := hset i i0 i1; have := q.1; omega
/-- frames of needs -/
def Fn_ (t : Int) (u w : V_) : Prop := ∀ a k, ¬ (a = 200 + 75 * t ∧ k = 6) → a ≠ 204 + 75 * t → a ≠ 206 + 75 * t → ¬ (∃ j, 0 ≤ j ∧ j < 34 ∧ a = 207 + 75 * t + 2 * j ∧ k = 3) → w a k = u a k
theorem Fn_IE {g vc vr wc : V_} {t j : Int} (h : Fn_ t vc wc) (h0 : 0 ≤ j ∧ j < 34) (hI : IE_ g vc (207 + 75 * t + 2 * j) vr (34 * t + j)) : IE_ g wc (207 + 75 * t + 2 * j) vr (34 * t + j) := by
  have F : ∀ k, k ≠ 3 → wc (207 + 75 * t + 2 * j) k = vc (207 + 75 * t + 2 * j) k := fun k hk => h _ _ (by omega) (by omega) (by omega) (fun ⟨i, i0, i1, e, e2⟩ => hk e2)
  have F2 : ∀ k, wc (207 + 75 * t + 2 * j + 1) k = vc (207 + 75 * t + 2 * j + 1) k := fun k => h _ _ (by omega) (by omega) (by omega) (fun ⟨i, i0, i1, e, e2⟩ => by omega)
  exact IE_fr hI ⟨F 1 (by decide), F 2 (by decide), F 4 (by decide), F 5 (by decide)⟩ F2 (fun _ _ _ => rfl)
def pl_ (g v : V_) (t j : Int) : Int := if v 849 (34 * t + j) = 1 then 0 else lat_ g v (34 * t + j)
theorem ct_6 {f : Int → Int} : ∀ n : Nat, (∀ i : Int, 0 ≤ i → i < n → 0 ≤ f i ∧ f i ≤ 6) → 0 ≤ ct_ f n ∧ ct_ f n ≤ 6 * n := by
  intro n
  induction n with
  | zero => exact fun _ => ⟨Int.le_refl _, Int.le_refl _⟩
  | succ n ih =>
    intro h
    have a := ih fun i i0 i1 => h i i0 (by omega)
    have b := h n (by omega) (by omega)
    simp only [ct_]
    omega
theorem conv_e {g v : V_} {L : Int → Int} {t i j n : Int} (h : MX_ ((lsx_ v t i j (v 856 (34 * t + j)), lat_ g v (34 * t + i)) :: (lsx_ v t i j (v 855 (34 * t + j)), lat_ g v (34 * t + i)) :: oL_ g L v t i j) n) : MX_ (nL_ g L v t i j) n := by
  refine MX_c h (fun q hq hh => ?_) (fun q hq hh => ?_)
  · have mk : ∀ (p : Prop) (x : Int), (p, x) ∈ nL_ g L v t i j → p → x = q.2 → ∃ q' ∈ nL_ g L v t i j, q'.1 ∧ q'.2 = q.2 := fun p x a b c => ⟨(p, x), a, b, c⟩
    simp only [List.mem_cons, oL_, List.not_mem_nil, or_false] at hq
    rcases hq with e | e | e | e | e | e <;> rw [e] at hh <;> (try rw [e]) <;> dsimp only at hh ⊢
    · exact ⟨((rd_ v (34 * t + j) (v 854 (34 * t + i)) ∧ ∀ k, i < k → k < j → v 854 (34 * t + k) ≠ v 854 (34 * t + i)), lat_ g v (34 * t + i)), by simp [nL_], ⟨⟨hh.2.1, Or.inr hh.1⟩, hh.2.2⟩, rfl⟩
    · exact ⟨((rd_ v (34 * t + j) (v 854 (34 * t + i)) ∧ ∀ k, i < k → k < j → v 854 (34 * t + k) ≠ v 854 (34 * t + i)), lat_ g v (34 * t + i)), by simp [nL_], ⟨⟨hh.2.1, Or.inl hh.1⟩, hh.2.2⟩, rfl⟩
    · exact ⟨_, by unfold nL_; exact List.mem_cons_of_mem _ (List.mem_cons_of_mem _ (List.mem_cons_of_mem _ (List.mem_cons_of_mem _ (List.mem_cons_of_mem _ List.mem_cons_self)))), hh, rfl⟩
    · exact ⟨_, by unfold nL_; exact List.mem_cons_of_mem _ (List.mem_cons_of_mem _ (List.mem_cons_of_mem _ (List.mem_cons_of_mem _ List.mem_cons_self))), hh, rfl⟩
    · rcases hh with hh | hh
      · exact ⟨_, by unfold nL_; exact List.mem_cons_of_mem _ (List.mem_cons_of_mem _ List.mem_cons_self), hh, rfl⟩
      · exact ⟨_, by unfold nL_; exact List.mem_cons_of_mem _ List.mem_cons_self, hh, rfl⟩
    · rcases hh with hh | hh | hh
      · exact ⟨_, by unfold nL_; exact List.mem_cons_self, hh, rfl⟩
      · exact ⟨_, by unfold nL_; exact List.mem_cons_of_mem _ (List.mem_cons_of_mem _ (List.mem_cons_of_mem _ (List.mem_cons_of_mem _ (List.mem_cons_of_mem _ (List.mem_cons_of_mem _ List.mem_cons_self))))), hh, rfl⟩
      · exact ⟨_, by unfold nL_; exact List.mem_cons_of_mem _ (List.mem_cons_of_mem _ (List.mem_cons_of_mem _ List.mem_cons_self)), hh, rfl⟩
  · simp only [nL_, List.mem_cons, List.not_mem_nil, or_false] at hq
    have o1 : ∀ q', q' ∈ oL_ g L v t i j → q' ∈ ((lsx_ v t i j (v 856 (34 * t + j)), lat_ g v (34 * t + i)) :: (lsx_ v t i j (v 855 (34 * t + j)), lat_ g v (34 * t + i)) :: oL_ g L v t i j) := fun q' h => List.mem_cons_of_mem _ (List.mem_cons_of_mem _ h)
    rcases hq with e | e | e | e | e | e | e | e <;> rw [e] at hh <;> (try rw [e]) <;> dsimp only at hh ⊢
    · exact ⟨_, o1 _ (by unfold oL_; exact List.mem_cons_of_mem _ (List.mem_cons_of_mem _ (List.mem_cons_of_mem _ List.mem_cons_self))), Or.inl hh, rfl⟩
    · exact ⟨_, o1 _ (by unfold oL_; exact List.mem_cons_of_mem _ (List.mem_cons_of_mem _ List.mem_cons_self)), Or.inr hh, rfl⟩
    · exact ⟨_, o1 _ (by unfold oL_; exact List.mem_cons_of_mem _ (List.mem_cons_of_mem _ List.mem_cons_self)), Or.inl hh, rfl⟩
    · exact ⟨_, o1 _ (by unfold oL_; exact List.mem_cons_of_mem _ (List.mem_cons_of_mem _ (List.mem_cons_of_mem _ List.mem_cons_self))), Or.inr (Or.inr hh), rfl⟩
    · exact ⟨_, o1 _ (by unfold oL_; exact List.mem_cons_of_mem _ List.mem_cons_self), hh, rfl⟩
    · exact ⟨_, o1 _ (by unfold oL_; exact List.mem_cons_self), hh, rfl⟩
    · exact ⟨_, o1 _ (by unfold oL_; exact List.mem_cons_of_mem _ (List.mem_cons_of_mem _ (List.mem_cons_of_mem _ List.mem_cons_self))), Or.inr (Or.inl hh), rfl⟩
    · obtain ⟨⟨h1, h2⟩, h3⟩ := hh
      rcases h2 with h2 | h2
      · exact ⟨_, List.mem_cons_of_mem _ List.mem_cons_self, ⟨h2, h1, h3⟩, rfl⟩
      · exact ⟨_, List.mem_cons_self, ⟨h2, h1, h3⟩, rfl⟩
theorem find_T {g vc vr : V_} {L : Int → Int} {t p m : Int} (hw : WF_ g) (hg : RG_ g) (hC : C_ vc p g) (ht : 0 ≤ t ∧ t < 8) (hm : vc (200 + 75 * t) 3 = m ∧ 1 ≤ m ∧ m ≤ 34) (hI : ∀ j, 0 ≤ j → j < m → IE_ g vc (207 + 75 * t + 2 * j) vr (34 * t + j)) (hL : ∀ b, 0 ≤ b → b < g 0 0 → vc (p + 5) b = L b ∧ r6_ (L b)) : ∃ wc, fX10_findNeeds (200 + 75 * t) p 140 vc = bd_ (fX10_findHeights (200 + 75 * t) wc) (fun q => some (0, q.2)) ∧ Fn_ t vc wc ∧ wc (200 + 75 * t) 6 = ct_ (pl_ g vr t) m.toNat ∧ (∀ j, 0 ≤ j → j < m → wc (207 + 75 * t + 2 * j) 3 = lat_ g vr (34 * t + j)) ∧ ∀ i j, 0 ≤ i → i < j → j < m → MX_ (nL_ g L vr t i j) (wc (204 + 75 * t) (34 * i + j)) := by
  have hn := hw.1
  have hp := hC.1
  have latb : ∀ j, 0 ≤ j → j < m → 1 ≤ lat_ g vr (34 * t + j) ∧ lat_ g vr (34 * t + j) ≤ 6 := fun j j0 j1 => by
    have := (IE_kind (hI j j0 j1)).2
    exact hg.2.2.2.2 _ (by omega) (by omega)
  have plb : ∀ j, 0 ≤ j → j < m → 0 ≤ pl_ g vr t j ∧ pl_ g vr t j ≤ 6 := fun j j0 j1 => by
    have := latb j j0 j1
    unfold pl_
    split <;> omega
  have sets12 : ∀ j, 0 ≤ j → j < m → vr 854 (34 * t + j) < 12 := fun j j0 j1 => by
    have := IE_sets (hI j j0 j1)
    omega
  unfold fX10_findNeeds
  rw [lt_d, lt_d]
  obtain ⟨u, e, -, a1, a2, a3, a4, -⟩ := lp_s (σ := V_) (F := fun n j u => fX10_findNeeds_15 n (200 + 75 * t) p 140 j u) (K := fun u => bd_ (fX10_findHeights (200 + 75 * t) u) (fun q => some (0, q.2))) (e := m) (I := fun j u => 0 ≤ j ∧ Fn_ t vc u ∧ u (200 + 75 * t) 6 = ct_ (pl_ g vr t) j.toNat ∧ (∀ k, 0 ≤ k → k < j → u (207 + 75 * t + 2 * k) 3 = lat_ g vr (34 * t + k)) ∧ (∀ i k, 0 ≤ i → i < k → k < j → MX_ (nL_ g L vr t i k) (u (204 + 75 * t) (34 * i + k))) ∧ ∀ r, 0 ≤ r → r < 12 → SB_ vr t j r (u (206 + 75 * t) r)) (fun n j u h hj => by
    obtain ⟨j0, a1, a2, a3, a4, a5⟩ := h
    have hsz : u (200 + 75 * t) 3 = m := (a1 _ _ (by omega) (by omega) (by omega) (fun ⟨i, _, _, e, _⟩ => by omega)).trans hm.1
    have hJ := Fn_IE a1 ⟨j0, by omega⟩ (hI j j0 hj)
    have hCu : C_ u p g := C_fr hw hC (fun a k q1 q2 => a1 _ _ (by omega) (by omega) (by omega) (fun ⟨i, _, _, e, _⟩ => by omega)) (fun k _ _ => a1 _ _ (by omega) (by omega) (by omega) (fun ⟨i, _, _, e, _⟩ => by omega))
    have lj := latb j j0 hj
    have hk := (IE_kind hJ).2
    have cb := ct_6 j.toNat (f := pl_ g vr t) fun i i0 i1 => plb i i0 (by omega)
    have pj := plb j j0 hj
    rw [fX10_findNeeds_15, hsz, if_neg (by omega), ck_t (by omega), lt_d, show (200 + 75 * t + 2) + (5 + 2 * j) = 207 + 75 * t + 2 * j by omega, (IE_kind hJ).1, bd_s]
    try dsimp only
    rw [clat_e hCu hk, bd_s, lt_d]
    try dsimp only
    rw [show g 11 (43 + vr 851 (34 * t + j)) = lat_ g vr (34 * t + j) from rfl]
    have e71 : (if up_ u (207 + 75 * t + 2 * j) 3 (lat_ g vr (34 * t + j)) (207 + 75 * t + 2 * j) 1 = 1 then fX10_findNeeds_71 (fX10_findNeeds_15 n) (200 + 75 * t) p 140 j (207 + 75 * t + 2 * j) (200 + 75 * t) (up_ u (207 + 75 * t + 2 * j) 3 (lat_ g vr (34 * t + j)) (200 + 75 * t) 6) 0 (up_ u (207 + 75 * t + 2 * j) 3 (lat_ g vr (34 * t + j))) else fX10_findNeeds_71 (fX10_findNeeds_15 n) (200 + 75 * t) p 140 j (207 + 75 * t + 2 * j) (200 + 75 * t) (up_ u (207 + 75 * t + 2 * j) 3 (lat_ g vr (34 * t + j)) (200 + 75 * t) 6) (up_ u (207 + 75 * t + 2 * j) 3 (lat_ g vr (34 * t + j)) (207 + 75 * t + 2 * j) 3) (up_ u (207 + 75 * t + 2 * j) 3 (lat_ g vr (34 * t + j)))) = fX10_findNeeds_71 (fX10_findNeeds_15 n) (200 + 75 * t) p 140 j (207 + 75 * t + 2 * j) (200 + 75 * t) (u (200 + 75 * t) 6) (pl_ g vr t j) (up_ u (207 + 75 * t + 2 * j) 3 (lat_ g vr (34 * t + j))) := by
      rw [up_n (show ¬ (207 + 75 * t + 2 * j = 207 + 75 * t + 2 * j ∧ (1 : Int) = 3) by omega), up_n (show ¬ (200 + 75 * t = 207 + 75 * t + 2 * j ∧ (6 : Int) = 3) by omega), up_s ⟨rfl, rfl⟩]
      unfold pl_
      by_cases c : vr 849 (34 * t + j) = 1
      · rw [if_pos (hJ.1.trans c), if_pos c]
      · rw [if_neg (by rw [hJ.1]; exact c), if_neg c]
    rw [e71]
    clear e71
    unfold fX10_findNeeds_71
    rw [lt_d, a2, wr_id (by omega)]
    generalize eu0 : up_ (up_ u (207 + 75 * t + 2 * j) 3 (lat_ g vr (34 * t + j))) (200 + 75 * t) 6 (ct_ (pl_ g vr t) j.toNat + pl_ g vr t j) = u0
    have z0 : ∀ a k, ¬ (a = 200 + 75 * t ∧ k = 6) → ¬ (a = 207 + 75 * t + 2 * j ∧ k = 3) → u0 a k = u a k := fun a k n1 n2 => by rw [← eu0, up_n n1, up_n n2]
    have z6 : u0 (200 + 75 * t) 6 = ct_ (pl_ g vr t) (j + 1).toNat := by
      rw [← eu0, up_s ⟨rfl, rfl⟩, show (j + 1).toNat = j.toNat + 1 by omega]
      simp only [ct_]
      rw [show ((j.toNat : Nat) : Int) = j by omega]
    have z3 : ∀ k, 0 ≤ k → k < j + 1 → u0 (207 + 75 * t + 2 * k) 3 = lat_ g vr (34 * t + k) := fun k k0 k1 => by
      by_cases c : k = j
      · rw [← eu0, up_n (by omega), up_s ⟨by omega, rfl⟩, c]
      · rw [z0 _ _ (by omega) (by omega)]
        exact a3 k k0 (by omega)
    clear eu0
    have F0 : Fn_ t vc u0 := fun a k q1 q2 q3 q4 => by
      rw [z0 _ _ q1 (fun q => q4 ⟨j, j0, by omega, q.1, q.2⟩)]
      exact a1 a k q1 q2 q3 q4
    obtain ⟨u1, e1, -, b1, b2, b3⟩ := lp_s (σ := V_) (F := fun n' i w => fX10_findNeeds_78 (fX10_findNeeds_15 n) n' (200 + 75 * t) p 140 j (207 + 75 * t + 2 * j) i w) (K := fun w => fX10_findNeeds_78 (fX10_findNeeds_15 n) 1 (200 + 75 * t) p 140 j (207 + 75 * t + 2 * j) j w) (e := j) (I := fun i w => 0 ≤ i ∧ (∀ b k, b ≠ 204 + 75 * t → w b k = u0 b k) ∧ (∀ k, ¬ (∃ i, 0 ≤ i ∧ i < j ∧ k = 34 * i + j) → w (204 + 75 * t) k = u0 (204 + 75 * t) k) ∧ ∀ i', 0 ≤ i' → i' < i → MX_ (oL_ g L vr t i' j) (w (204 + 75 * t) (34 * i' + j))) (fun n' i w h hi => by
      obtain ⟨i0, c1, c2, c3⟩ := h
      have F1 : Fn_ t vc w := fun a k q1 q2 q3 q4 => (c1 a k q2).trans (F0 a k q1 q2 q3 q4)
      have hI1 := Fn_IE F1 ⟨i0, by omega⟩ (hI i i0 (by omega))
      have hJ1 := Fn_IE F1 ⟨j0, by omega⟩ (hI j j0 hj)
      obtain ⟨nn, o1, o2⟩ := order_e (p := p) (L := L) hn.2 hg hI1 hJ1 (fun b b0 b1 => by rw [F1 (p + 5) b (by omega) (by omega) (by omega) (fun ⟨i, _, _, e, _⟩ => by omega)]; exact hL b b0 b1) ((c1 _ _ (by omega)).trans (z3 i i0 (by omega))) ((c1 _ _ (by omega)).trans (z3 j j0 (by omega)))
      rw [fX10_findNeeds_78, if_neg (by omega), ck_t (by omega), show (200 + 75 * t + 2) + (5 + 2 * i) = 207 + 75 * t + 2 * i by omega, o1, bd_s, wr_id (show -2147483648 ≤ i * 34 ∧ i * 34 < 2147483648 by omega), wr_id (show -2147483648 ≤ i * 34 + j ∧ i * 34 + j < 2147483648 by omega), ck_t (by omega), lt_d, lt_d, wr_id (by omega), show 200 + 75 * t + 4 = 204 + 75 * t by omega, show i * 34 + j = 34 * i + j by omega]
      refine ⟨_, rfl, by omega, fun b k h => ?_, fun k h => ?_, fun i' i0' i1' => ?_⟩
      · rw [up_n (by omega)]; exact c1 b k h
      · rw [up_n (fun q => h ⟨i, i0, hi, q.2⟩)]; exact c2 k h
      · by_cases e : i' = i
        · rw [e, up_s ⟨rfl, rfl⟩]
          exact o2
        · rw [up_n (by omega)]
          exact c3 i' i0' (by omega)) (fun n' w _ => by
      rw [fX10_findNeeds_78, fX10_findNeeds_78, if_pos (show j ≤ j by omega), if_pos (show j ≤ j by omega)]) j.toNat fu_ 0 u0 ⟨by decide, fun _ _ _ => rfl, fun _ _ => rfl, fun i' q1 q2 => by omega⟩ (by omega) (by unfold fu_; omega)
    rw [e1, fX10_findNeeds_78, if_pos (show j ≤ j by omega)]
    have F1 : Fn_ t vc u1 := fun a k q1 q2 q3 q4 => (b1 a k q2).trans (F0 a k q1 q2 q3 q4)
    have hJ1 := Fn_IE F1 ⟨j0, by omega⟩ (hI j j0 hj)
    obtain ⟨-, -, -, x1, x2, x3, x4, x5, -⟩ := id hJ1
    have hsb1 : ∀ r, 0 ≤ r → r < 12 → SB_ vr t j r (u1 (206 + 75 * t) r) := fun r r0 r1 => by
      rw [b1 _ _ (by omega), z0 _ _ (by omega) (by omega)]
      exact a5 r r0 r1
    obtain ⟨u2, d1, d2, d3⟩ := nws_e (g := g) (vr := vr) ht ⟨j0, by omega⟩ x4 hsb1 (fun i i0 i1 => sets12 i i0 (by omega)) (fun i i0 i1 => (b1 _ _ (by omega)).trans (z3 i i0 (by omega)))
    rw [x2, d1, bd_s]
    try dsimp only
    obtain ⟨u3, f1, f2, f3⟩ := nws_e (w := u2) (g := g) (vr := vr) ht ⟨j0, by omega⟩ x5 (fun r r0 r1 => by rw [d2 _ _ (by omega)]; exact hsb1 r r0 r1) (fun i i0 i1 => sets12 i i0 (by omega)) (fun i i0 i1 => by rw [d2 _ _ (by omega)]; exact (b1 _ _ (by omega)).trans (z3 i i0 (by omega)))
    rw [d2 _ _ (by omega), x3, f1, bd_s]
    try dsimp only
    have eset : u3 (207 + 75 * t + 2 * j + 1) 1 = vr 854 (34 * t + j) := by rw [f2 _ _ (by omega), d2 _ _ (by omega), x1]
    have mat : ∀ i k, 0 ≤ i → i < k → k < j + 1 → MX_ (nL_ g L vr t i k) (u3 (204 + 75 * t) (34 * i + k)) := fun i k i0 i1 k1 => by
      by_cases c : k = j
      · rw [c] at i1 ⊢
        exact conv_e (f3 i _ i0 i1 (d3 i _ i0 i1 (b3 i i0 i1)))
      · rw [f2 _ _ (fun ⟨_, i', q1, q2, q3⟩ => by omega), d2 _ _ (fun ⟨_, i', q1, q2, q3⟩ => by omega), b2 _ (fun ⟨i', q1, q2, q3⟩ => by omega), z0 _ _ (by omega) (by omega)]
        exact a4 i k i0 i1 (by omega)
    have F3 : Fn_ t vc u3 := fun a k q1 q2 q3 q4 => by
      rw [f2 _ _ (fun q => q2 q.1), d2 _ _ (fun q => q2 q.1)]
      exact F1 a k q1 q2 q3 q4
    have o6 : u3 (200 + 75 * t) 6 = ct_ (pl_ g vr t) (j + 1).toNat := by rw [f2 _ _ (by omega), d2 _ _ (by omega), b1 _ _ (by omega)]; exact z6
    have o3 : ∀ k, 0 ≤ k → k < j + 1 → u3 (207 + 75 * t + 2 * k) 3 = lat_ g vr (34 * t + k) := fun k k0 k1 => by
      rw [f2 _ _ (by omega), d2 _ _ (by omega), b1 _ _ (by omega)]
      exact z3 k k0 k1
    have os : ∀ r, 0 ≤ r → r < 12 → SB_ vr t j r (u3 (206 + 75 * t) r) := fun r r0 r1 => by
      rw [f2 _ _ (by omega), d2 _ _ (by omega)]
      exact hsb1 r r0 r1
    have hs := IE_sets hJ1
    by_cases c : vr 854 (34 * t + j) < 0
    · rw [if_pos (by rw [eset]; exact c), lt_d, wr_id (by omega)]
      refine ⟨u3, rfl, by omega, F3, o6, o3, mat, fun r r0 r1 => ?_⟩
      rcases os r r0 r1 with ⟨s1, s2⟩ | ⟨s1, s2, s3, s4⟩
      · refine Or.inl ⟨s1, fun k k0 k1 => ?_⟩
        by_cases e : k = j
        · rw [e]; omega
        · exact s2 k k0 (by omega)
      · refine Or.inr ⟨s1, by omega, s3, fun k k0 k1 => ?_⟩
        by_cases e : k = j
        · rw [e]; omega
        · exact s4 k k0 (by omega)
    · rw [if_neg (by rw [eset]; exact c), ck_t (by omega), lt_d, lt_d, wr_id (by omega), show 200 + 75 * t + 6 = 206 + 75 * t by omega, eset]
      refine ⟨_, rfl, by omega, fun a k q1 q2 q3 q4 => (up_n (by omega)).trans (F3 a k q1 q2 q3 q4), (up_n (by omega)).trans o6, fun k k0 k1 => (up_n (by omega)).trans (o3 k k0 k1), fun i k i0 i1 k1 => by rw [up_n (by omega)]; exact mat i k i0 i1 k1, fun r r0 r1 => ?_⟩
      by_cases e : r = vr 854 (34 * t + j)
      · rw [up_s ⟨rfl, e⟩]
        exact Or.inr ⟨j0, by omega, e.symm, fun k k0 k1 => by omega⟩
      · rw [up_n (by omega)]
        rcases os r r0 r1 with ⟨s1, s2⟩ | ⟨s1, s2, s3, s4⟩
        · refine Or.inl ⟨s1, fun k k0 k1 => ?_⟩
          by_cases e2 : k = j
          · rw [e2]; exact fun q => e q.symm
          · exact s2 k k0 (by omega)
        · refine Or.inr ⟨s1, by omega, s3, fun k k0 k1 => ?_⟩
          by_cases e2 : k = j
          · rw [e2]; exact fun q => e q.symm
          · exact s4 k k0 (by omega)) (fun n u h => by
    have hsz : u (200 + 75 * t) 3 = m := (h.2.1 _ _ (by omega) (by omega) (by omega) (fun ⟨i, _, _, e, _⟩ => by omega)).trans hm.1
    rw [fX10_findNeeds_15, hsz, if_pos (by omega)]) m.toNat fu_ 0 (up_ (fl_ vc (200 + 75 * t + 6) 12 (-1)) (200 + 75 * t) 6 0) ⟨by decide, fun a k q1 q2 q3 q4 => by rw [up_n q1]; exact if_neg (by omega), by rw [up_s ⟨rfl, rfl⟩]; rfl, fun k k0 k1 => by omega, fun i k i0 i1 k1 => by omega, fun r r0 r1 => by
      rw [up_n (by omega), show fl_ vc (200 + 75 * t + 6) 12 (-1) (206 + 75 * t) r = -1 from if_pos ⟨by omega, r0, r1⟩]
      exact Or.inl ⟨rfl, fun k k0 k1 => by omega⟩⟩ (by omega) (by unfold fu_; omega)
  exact ⟨u, e, a1, a2, a3, a4⟩
