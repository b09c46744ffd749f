/-! layer 2: a cycle's items read by the reference -/
abbrev iln_ (vr : V_) (k : Int) : Prop := vr 849 k = 0 ∨ vr 849 k = 1
/-- what the reference keeps of item j, read in a cycle that began with vr -/
def RJ_ (t j : Int) (vr w : V_) : Prop := (iln_ vr (34 * t + j) → w 866 j = fw_ vr (34 * t + j) ∧ w 864 j = fd_ vr (34 * t + j) ∧ w 865 j = fc_ vr (34 * t + j) ∧ w 867 j = fw_ vr (34 * t + j)) ∧ (¬ iln_ vr (34 * t + j) → w 868 j = fe_ vr (34 * t + j) ∧ w 867 j = 0)
/-- a fault that is no guess's -/
def UF_ (t c : Int) (vr : V_) (j : Int) : Prop := vr 858 (34 * t + j) = c ∧ iln_ vr (34 * t + j) ∧ fw_ vr (34 * t + j) = 1 ∧ ¬ gu_ vr t j
def Gv_ (u w : V_) : Prop := ∀ a k, ¬ (864 ≤ a ∧ a ≤ 868) → ¬ (a = 814 ∧ 40 ≤ k ∧ k ≤ 42) → w a k = u a k
theorem Gv_f {t : Int} {u w : V_} (h : Gv_ u w) (k : Int) : fw_ w k = fw_ u k ∧ fd_ w k = fd_ u k ∧ fc_ w k = fc_ u k ∧ fe_ w k = fe_ u k := by
  have e : ∀ a, ¬ (864 ≤ a ∧ a ≤ 868) → a ≠ 814 → w a = u a := fun a h1 h2 => funext fun k => h a k h1 (by omega)
  unfold fw_ fd_ fc_ fe_
  rw [e 839 (by decide) (by decide), e 840 (by decide) (by decide), e 852 (by decide) (by decide), e 853 (by decide) (by decide), e 855 (by decide) (by decide), e 856 (by decide) (by decide)]
  exact ⟨rfl, rfl, rfl, rfl⟩
theorem gu_eq {u w : V_} (h : Gv_ u w) (t j : Int) : gu_ w t j ↔ gu_ u t j := by
  have e : ∀ a, ¬ (864 ≤ a ∧ a ≤ 868) → a ≠ 814 → w a = u a := fun a h1 h2 => funext fun k => h a k h1 (by omega)
  unfold gu_
  rw [e 849 (by decide) (by decide), e 858 (by decide) (by decide)]
theorem rcyc_T {g vc vr : V_} {L : Int → Int} {t m c : Int} (ht : 0 ≤ t ∧ t < 8) (hP : PT_ g L t m vc vr) : (∃ w, fX12_cycleDone 814 t c vr = fX12_cycleDone_76 fu_ 814 t c 0 w ∧ Gv_ vr w ∧ (∀ j, 0 ≤ j → j < m → vr 858 (34 * t + j) = c → RJ_ t j vr w ∧ ¬ UF_ t c vr j) ∧ ∀ j, (0 ≤ j → j < m → vr 858 (34 * t + j) ≠ c) → w 867 j = vr 867 j) ∨ (∃ w j, fX12_cycleDone 814 t c vr = some (0, w) ∧ Gv_ vr w ∧ 0 ≤ j ∧ j < m ∧ UF_ t c vr j) := by
  have hm := hP.1.1.2.2
  unfold fX12_cycleDone
  rcases lp_x (σ := V_) (F := fun n j w => fX12_cycleDone_2 n 814 t c j w) (K := fun w => fX12_cycleDone_76 fu_ 814 t c 0 w) (e := m) (I := fun i w => 0 ≤ i ∧ Gv_ vr w ∧ (∀ j, 0 ≤ j → j < i → vr 858 (34 * t + j) = c → RJ_ t j vr w ∧ ¬ UF_ t c vr j) ∧ ∀ j, (0 ≤ j → j < i → vr 858 (34 * t + j) ≠ c) → w 867 j = vr 867 j) (Q := fun out => ∃ w j, out = some (0, w) ∧ Gv_ vr w ∧ 0 ≤ j ∧ j < m ∧ UF_ t c vr j) (fun n i w h hi => by
    obtain ⟨i0, G, hA, hB⟩ := h
    have hPw : PT_ g L t m vc w := PT_g ht hP (fun _ _ _ => rfl) (fun a k _ _ => G a k (by omega) (by omega))
    have e848 : w 848 t = m := hPw.1.1.2.1
    have e858 : w 858 (34 * t + i) = vr 858 (34 * t + i) := G _ _ (by decide) (by omega)
    have e849 : w 849 (34 * t + i) = vr 849 (34 * t + i) := G _ _ (by decide) (by omega)
    rw [fX12_cycleDone_2, ck_t ht]
    simp only [Int.reduceAdd]
    rw [if_neg (show ¬ w 848 t ≤ i by omega), ix_ ht ⟨i0, by omega⟩, ck_t (by omega)]
    by_cases q : vr 858 (34 * t + i) = c
    · rw [if_pos (e858.trans q)]
      have hE := (hPw.2.1 i i0 hi).1
      obtain ⟨f1, f2, f3, f4⟩ := Gv_f (t := t) G (34 * t + i)
      -- behind the reading
      have fin : ∀ w1, Fi2_ i w w1 → w1 866 i = (if iln_ vr (34 * t + i) then fw_ vr (34 * t + i) else 0) → (w1 866 i = 0 ∨ w1 866 i = 1) → (iln_ vr (34 * t + i) → w1 864 i = fd_ vr (34 * t + i) ∧ w1 865 i = fc_ vr (34 * t + i)) → (¬ iln_ vr (34 * t + i) → w1 868 i = fe_ vr (34 * t + i)) → ¬ UF_ t c vr i → ∃ w2, fX12_cycleDone_56 (fX12_cycleDone_2 n) 814 t c i w1 = fX12_cycleDone_2 n 814 t c (i + 1) w2 ∧ 0 ≤ i + 1 ∧ Gv_ vr w2 ∧ (∀ j, 0 ≤ j → j < i + 1 → vr 858 (34 * t + j) = c → RJ_ t j vr w2 ∧ ¬ UF_ t c vr j) ∧ ∀ j, (0 ≤ j → j < i + 1 → vr 858 (34 * t + j) ≠ c) → w2 867 j = vr 867 j := by
        intro w1 F v1 v0 v2 v3 nu
        unfold fX12_cycleDone_56
        simp only [Int.reduceAdd]
        rw [ck_t (by omega), ck_t (by omega), ck_t v0, lt_d, lt_d, wr_id (by omega)]
        have U : ∀ a k, a ≠ 867 → up_ w1 867 i (w1 866 i) a k = w1 a k := fun a k h => up_n (by omega)
        refine ⟨_, rfl, by omega, fun a k h1 h2 => ?_, fun j j0 j1 jc => ?_, fun j hj => ?_⟩
        · rw [U a k (by omega), F a k h2 (by omega)]
          exact G a k h1 h2
        · rcases (by omega : j < i ∨ j = i) with z | z
          · obtain ⟨⟨p1, p2⟩, p3⟩ := hA j j0 z jc
            refine ⟨⟨fun l => ?_, fun l => ?_⟩, p3⟩
            · obtain ⟨s1, s2, s3, s4⟩ := p1 l
              rw [U 866 _ (by decide), U 864 _ (by decide), U 865 _ (by decide), up_n (by omega), F 866 j (by omega) (by omega), F 864 j (by omega) (by omega), F 865 j (by omega) (by omega), F 867 j (by omega) (by omega)]
              exact ⟨s1, s2, s3, s4⟩
            · obtain ⟨s1, s2⟩ := p2 l
              rw [U 868 _ (by decide), up_n (by omega), F 868 j (by omega) (by omega), F 867 j (by omega) (by omega)]
              exact ⟨s1, s2⟩
          · rw [z]
            refine ⟨⟨fun l => ?_, fun l => ?_⟩, nu⟩
            · rw [U 866 _ (by decide), U 864 _ (by decide), U 865 _ (by decide), up_s ⟨rfl, rfl⟩, v1, if_pos l]
              exact ⟨rfl, (v2 l).1, (v2 l).2, rfl⟩
            · rw [U 868 _ (by decide), up_s ⟨rfl, rfl⟩, v1, if_neg l]
              exact ⟨v3 l, rfl⟩
        · by_cases z : j = i
          · exact absurd q (by rw [← z]; exact hj (by omega) (by omega))
          · rw [up_n (by omega), F 867 j (by omega) (by omega)]
            exact hB j fun a b => hj a (by omega)
      by_cases l : iln_ vr (34 * t + i)
      · obtain ⟨hL, -⟩ := IE_line hE (show w 849 (34 * t + i) = 0 ∨ w 849 (34 * t + i) = 1 by rw [e849]; exact l)
        obtain ⟨w1, r1, r2, r3, r4, r5⟩ := reads_l ht ⟨i0, by omega⟩ hL
        rw [f1] at r2
        rw [f2] at r3
        rw [f3] at r4
        have v0 : w1 866 i = 0 ∨ w1 866 i = 1 := by rw [r2]; exact wf_01 _ _ _ _
        rw [r1, bd_s, ck_t (by omega)]
        try dsimp only
        have v1 : w1 866 i = (if iln_ vr (34 * t + i) then fw_ vr (34 * t + i) else 0) := by rw [r2, if_pos l]
        by_cases c0 : w1 866 i = 0
        · rw [if_pos c0]
          exact Or.inl (fin w1 r5 v1 v0 (fun _ => ⟨r3, r4⟩) (fun n => absurd l n) (fun z => by have := z.2.2.1; omega))
        · obtain ⟨r, o1, o2⟩ := guess_e (v := w1) (t := t) (j := i) ht ⟨i0, by omega⟩
          have G1 : Gv_ vr w1 := fun a k h1 h2 => by rw [r5 a k h2 (by omega)]; exact G a k h1 h2
          rw [gu_eq G1] at o2
          rw [if_neg c0, o1, bd_s]
          try dsimp only
          rcases o2 with ⟨z, z2⟩ | ⟨z, z2⟩
          · rw [if_neg (show ¬ r = 0 by omega)]
            exact Or.inl (fin w1 r5 v1 v0 (fun _ => ⟨r3, r4⟩) (fun n => absurd l n) (fun u => u.2.2.2 z2))
          · rw [if_pos z]
            exact Or.inr ⟨w1, i, rfl, G1, i0, hi, q, l, by omega, z2⟩
      · have k2 : w 849 (34 * t + i) = 2 ∨ w 849 (34 * t + i) = 3 := by
          unfold iln_ at l
          obtain ⟨-, -, -, -, -, -, -, -, o⟩ := hE
          rcases o with ⟨o, -⟩ | ⟨o, -⟩ | ⟨o, -⟩ | ⟨o, -⟩ <;> omega
        obtain ⟨-, s2, s3, s4⟩ := IE_end hE k2
        obtain ⟨w1, r1, r2, r3, r4⟩ := reads_e ht ⟨i0, by omega⟩ k2 s2 s3 s4
        rw [f4] at r3
        rw [r1, bd_s, ck_t (by omega)]
        try dsimp only
        rw [if_pos r2]
        exact Or.inl (fin w1 r4 (by rw [r2, if_neg l]) (Or.inl r2) (fun n => absurd n l) (fun _ => r3) (fun z => l z.2.1))
    · rw [if_neg (fun z => q (e858.symm.trans z)), lt_d, wr_id (by omega)]
      refine Or.inl ⟨w, rfl, by omega, G, fun j j0 j1 jc => ?_, fun j hj => hB j fun a b => hj a (by omega)⟩
      rcases (by omega : j < i ∨ j = i) with z | z
      · exact hA j j0 z jc
      · exact absurd jc (by rw [z]; exact q)) (fun n w h => by
    have e848 : w 848 t = m := (h.2.1 _ _ (by decide) (by omega)).trans hP.1.1.2.1
    rw [fX12_cycleDone_2, ck_t ht]
    simp only [Int.reduceAdd]
    rw [if_pos (show w 848 t ≤ m by omega)]) m.toNat fu_ 0 vr ⟨by decide, fun _ _ _ _ => rfl, fun j j0 j1 => absurd j0 (by omega), fun _ _ => rfl⟩ (by omega) (by unfold fu_; omega) with ⟨w, e, -, h1, h2, h3⟩ | ⟨w, j, e, h1, h2, h3, h4⟩
  · exact Or.inl ⟨w, e, h1, h2, h3⟩
  · exact Or.inr ⟨w, j, e, h1, h2, h3, h4⟩
