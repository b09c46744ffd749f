/-! layer 2: clear, place -/
def zf_ (v : V_) (a lo d : Int) : V_ := fun b j => if b = a ∧ lo ≤ j ∧ j < lo + d then 0 else v b j
theorem zf_i {v : V_} {a lo d b j : Int} (h : b = a ∧ lo ≤ j ∧ j < lo + d) : zf_ v a lo d b j = 0 := if_pos h
theorem zf_o {v : V_} {a lo d b j : Int} (h : ¬ (b = a ∧ lo ≤ j ∧ j < lo + d)) : zf_ v a lo d b j = v b j := if_neg h
theorem lp_z {F : Nat → Int → V_ → Option (Int × V_)} {K : V_ → Option (Int × V_)} {a lo e : Int} (hF : ∀ n i v, lo ≤ i → i < e → F (n + 1) i v = F n (i + 1) (up_ v a i 0)) (hE : ∀ n v, F (n + 1) e v = K v) : ∀ (d n : Nat) (i : Int) (v : V_), lo ≤ i → e = i + d → d < n → F n i v = K (zf_ v a i d) := by
  intro d
  induction d with
  | zero =>
    intro n i v h0 he hn
    obtain ⟨n, rfl⟩ : ∃ m, n = m + 1 := ⟨n - 1, by omega⟩
    have e1 : i = e := by omega
    subst e1
    rw [hE n v]
    congr 1
    funext b j
    rw [zf_o (by omega)]
  | succ d ih =>
    intro n i v h0 he hn
    obtain ⟨n, rfl⟩ : ∃ m, n = m + 1 := ⟨n - 1, by omega⟩
    rw [hF n i v h0 (by omega), ih n (i + 1) _ (by omega) (by omega) (by omega)]
    congr 1
    funext b j
    by_cases c : b = a
    · subst c
      by_cases c1 : i + 1 ≤ j ∧ j < i + 1 + d
      · rw [zf_i ⟨rfl, c1⟩, zf_i ⟨rfl, by omega, by omega⟩]
      · rw [zf_o (fun q => c1 q.2)]
        by_cases c2 : j = i
        · rw [zf_i ⟨rfl, by omega, by omega⟩, up_s ⟨rfl, c2⟩]
        · rw [zf_o (by omega), up_n (by omega)]
    · rw [zf_o (fun q => c q.1), zf_o (fun q => c q.1), up_n (fun q => c q.1)]
theorem clearCounts_e (v : V_) : fX7_clearCounts 140 v = some (0, zf_ v 141 14 24) := by
  unfold fX7_clearCounts
  refine (lp_z (F := fun n i v => fX7_clearCounts_3 n 140 i v) (K := fun v => some (0, v)) (a := 141) (lo := 14) (e := 38) (fun n i v h0 h1 => ?_) (fun n v => ?_) 24 fu_ 14 v (by decide) (by decide) (by decide)).trans rfl
  · show fX7_clearCounts_3 (n + 1) 140 i v = _
    rw [fX7_clearCounts_3, if_neg (by omega), ck_t (by omega), lt_d, lt_d, wr_id (by omega)]
    rfl
  · show fX7_clearCounts_3 (n + 1) 140 38 v = _
    rw [fX7_clearCounts_3, if_pos (by decide)]
theorem clear18_e (x : Int) (v : V_) : fX12_clear_18 fu_ 814 x 14 v = bd_ (fX12_records 814 (zf_ v 838 14 24)) fun q => some (x, q.2) := by
  refine (lp_z (F := fun n i v => fX12_clear_18 n 814 x i v) (K := fun v => bd_ (fX12_records 814 v) fun q => some (x, q.2)) (a := 838) (lo := 14) (e := 38) (fun n i v h0 h1 => ?_) (fun n v => ?_) 24 fu_ 14 v (by decide) (by decide) (by decide)).trans rfl
  · show fX12_clear_18 (n + 1) 814 x i v = _
    rw [fX12_clear_18, if_neg (by omega), ck_t (by omega), lt_d, lt_d, wr_id (by omega)]
    rfl
  · show fX12_clear_18 (n + 1) 814 x 38 v = _
    rw [fX12_clear_18, if_pos (by decide)]
theorem begun_T {vc vr : V_} (h : RW_ vc 141 vr 837 0) : ∃ r, fX7_allBegun 140 vc = some (r, vc) ∧ fX12_begunAll 814 vr = some (r, vr) := by
  unfold fX7_allBegun fX12_begunAll
  have go : ∀ (d n : Nat) (i s : Int), 0 ≤ i → 8 = i + d → d < n → ∃ r, fX7_allBegun_4 n 140 s i vc = some (r, vc) ∧ fX12_begunAll_4 n 814 s i vr = some (r, vr) := by
    intro d
    induction d with
    | zero =>
      intro n i s h0 he hn
      obtain ⟨n, rfl⟩ : ∃ m, n = m + 1 := ⟨n - 1, by omega⟩
      exact ⟨s, by rw [fX7_allBegun_4, if_pos (by omega)], by rw [fX12_begunAll_4, if_pos (by omega)]⟩
    | succ d ih =>
      intro n i s h0 he hn
      obtain ⟨n, rfl⟩ : ∃ m, n = m + 1 := ⟨n - 1, by omega⟩
      have e := h.2 (14 + i) (by omega) (by omega)
      rw [show pm_ (14 + i) = 14 + i from if_pos (by omega), Int.zero_add] at e
      obtain ⟨r, g1, g2⟩ := ih n (i + 1) (wr_ (s + vc 141 (14 + i))) (by omega) (by omega) (by omega)
      refine ⟨r, ?_, ?_⟩
      · rw [fX7_allBegun_4, if_neg (by omega)]
        unfold fX7_begunOf
        rw [wr_id (show -2147483648 ≤ 14 + i ∧ 14 + i < 2147483648 by omega), ck_t (by omega), bd_s, lt_d, lt_d, wr_id (show -2147483648 ≤ i + 1 ∧ i + 1 < 2147483648 by omega)]
        exact g1
      · rw [fX12_begunAll_4, if_neg (by omega), wr_id (show -2147483648 ≤ 14 + i ∧ 14 + i < 2147483648 by omega), ck_t (by omega), lt_d, lt_d, wr_id (show -2147483648 ≤ i + 1 ∧ i + 1 < 2147483648 by omega)]
        show fX12_begunAll_4 n 814 (wr_ (s + vr 837 (14 + i))) (i + 1) vr = _
        rw [e]
        exact g2
  exact go 8 fu_ 0 0 (by decide) (by decide) (by decide)
theorem clear_T {vc vr : V_} (h : RS_ vc vr) : ∃ r vc' vr', fX11_clear 1 vc = some (r, vc') ∧ fX12_clear 814 vr = some (r, vr') ∧ ((vc' = vc ∧ vr' = vr) ∨ Ch_ vc vr vc' vr') := by
  obtain ⟨r, b1, b2⟩ := begun_T h.1
  unfold fX11_clear fX12_clear
  show ∃ r vc' vr', bd_ (fX7_allBegun 140 vc) _ = _ ∧ _
  rw [b1, bd_s, b2, bd_s]
  by_cases c : r = 0
  · exact ⟨-1, vc, vr, if_pos c, if_pos c, Or.inl ⟨rfl, rfl⟩⟩
  · obtain ⟨vc1, vr2, n1, n2, n3, n3b, n4⟩ := chg_T (vr1 := zf_ (cp_ vr 837 0 838 0 47) 838 14 24) h (fun b k q => by rw [zf_o (by omega), cp_o (by omega)])
    have e : ∀ k, up_ (up_ (up_ (zf_ vc1 141 14 24) 1 11 0) 1 12 0) 1 13 0 141 k = if 14 ≤ k ∧ k < 38 then 0 else vc 141 k := fun k => by
      rw [up_n (by omega), up_n (by omega), up_n (by omega)]
      by_cases d : 14 ≤ k ∧ k < 38
      · rw [if_pos d, zf_i ⟨rfl, by omega, by omega⟩]
      · rw [if_neg d, zf_o (by omega), n3]
    obtain ⟨a1, a2, a3, a4⟩ := n4 (up_ (up_ (up_ (zf_ vc1 141 14 24) 1 11 0) 1 12 0) 1 13 0) (fun b k q1 q2 => by rw [up_n (by omega), up_n (by omega), up_n (by omega), zf_o (by omega)]) (by
      obtain ⟨h1, h2, h3, h4, h5⟩ := h.1.1
      refine ⟨?_, fun k a b => ?_, fun k a b => ?_, fun k a b => ?_, fun k a b => ?_⟩ <;> rw [e]
      · rw [if_neg (by omega)]; exact h1
      · rw [if_neg (by omega)]; exact h2 k a b
      · rw [if_pos ⟨a, b⟩]; decide
      · rw [if_neg (by omega)]; exact h4 k a b
      · rw [if_neg (by omega)]; exact h5 k a b) (fun k k0 k1 => by
      have := pm_b ⟨k0, k1⟩
      have pk : (14 ≤ pm_ k ∧ pm_ k < 38) ↔ (14 ≤ k ∧ k < 38) := by
        unfold pm_
        split <;> (try split) <;> omega
      rw [e]
      by_cases d : 14 ≤ k ∧ k < 38
      · have := pk.mpr d
        rw [if_pos d, zf_i ⟨rfl, by omega, by omega⟩]
      · have := mt pk.mp d
        rw [if_neg d, zf_o (by omega), cp_i ⟨rfl, by omega, by omega⟩, ← h.1.2 k k0 k1]
        congr 1
        omega)
    refine ⟨r, _, vr2, ?_, ?_, Or.inr ⟨a1, a2, a3, a4, ?_, up_s ⟨rfl, rfl⟩, Or.inl ?_⟩⟩
    · refine (if_neg c).trans ?_
      show bd_ (fX0_note 142 140 vc) _ = _
      rw [n1, bd_s]
      show bd_ (fX7_clearCounts 140 vc1) _ = _
      rw [clearCounts_e, bd_s]
      unfold fX11_forgetAll fX11_forgetRuns
      rw [lt_d, lt_d, lt_d, bd_s, bd_s]
    · refine (if_neg c).trans ?_
      rw [copies_e, bd_s, clear18_e, n2, bd_s]
    · rw [up_n (by omega), up_s ⟨rfl, rfl⟩]
    · rw [up_n (by omega), up_n (by omega), up_s ⟨rfl, rfl⟩]
