/-! layer 2: an item done, in both -/
/-- an item's line (or copy) -/
def IL_ (vr : V_) (k : Int) : Prop := (vr 849 k = 0 ∨ vr 849 k = 1) ∧ LI_ (vr 852 k) (vr 853 k) (vr 854 k) (vr 855 k) (vr 856 k)
def fw_ (vr : V_) (k : Int) : Int := wf_ (vr 852 k) (vr 853 k) (rv_ (vr 839) (vr 855 k)) (rv_ (vr 839) (vr 856 k))
def fd_ (vr : V_) (k : Int) : Int := dv_ (vr 840) (vr 852 k) (vr 853 k) (rv_ (vr 839) (vr 855 k)) (rv_ (vr 839) (vr 856 k))
def fc_ (vr : V_) (k : Int) : Int := dc_ (vr 852 k) (rv_ (vr 839) (vr 855 k))
def fe_ (vr : V_) (k : Int) : Int := if vr 852 k = 2 then -1 else ew_ (vr 852 k) (rv_ (vr 839) (vr 855 k)) (rv_ (vr 839) (vr 856 k))
section ITM
variable {g vc vr : V_} {t j : Int}
theorem IE_line {y k : Int} (h : IE_ g vc y vr k) (hk : vr 849 k = 0 ∨ vr 849 k = 1) : IL_ vr k ∧ SI_ vc (y + 1) (vr 852 k) (vr 853 k) (vr 854 k) (vr 855 k) (vr 856 k) := by
  obtain ⟨h1, h2, h3, h4, h5, h6, h7, h8, o⟩ := h
  rcases o with ⟨o1, o2, o3, -⟩ | ⟨o1, o2, o3, o4, o5, o6, -⟩ | ⟨o1, -⟩ | ⟨o1, -⟩
  · exact ⟨⟨hk, o3⟩, Or.inl o2, h4, h5, h6⟩
  · refine ⟨⟨hk, Or.inl ⟨o3, by omega, by omega, by omega, by omega⟩, h7, h8⟩, Or.inr ⟨o2, o3, o4, o6⟩, h4, h5, h6⟩
  · omega
  · omega
theorem IE_end {y k : Int} (h : IE_ g vc y vr k) (hk : vr 849 k = 2 ∨ vr 849 k = 3) : SE_ vc (y + 1) (vr 852 k) (vr 855 k) (vr 856 k) ∧ (0 ≤ vr 852 k ∧ vr 852 k ≤ 2) ∧ VA_ (vr 855 k) ∧ VA_ (vr 856 k) := by
  obtain ⟨h1, h2, h3, h4, h5, h6, h7, h8, o⟩ := h
  rcases o with ⟨o1, -⟩ | ⟨o1, -⟩ | ⟨o1, o2, o3, o4, -⟩ | ⟨o1, o2, o3, o4, -⟩
  · omega
  · omega
  · exact ⟨⟨by rw [o2, o3]; rfl, by rw [h4, o4], h5, h6⟩, by omega, h7, h8⟩
  · exact ⟨⟨o2, by rw [h4, o4], h5, h6⟩, o3, h7, h8⟩
theorem isEnd_l {k : Int} (hk : 0 ≤ k ∧ k < 272) (h : vr 849 k = 0 ∨ vr 849 k = 1) : fX12_isEnd 814 k vr = some (0, vr) := by
  unfold fX12_isEnd
  rw [ck_t hk, ck_t hk, show (814 : Int) + 35 = 849 from rfl, if_neg (by omega), if_neg (by omega)]
theorem isEnd_e {k : Int} (hk : 0 ≤ k ∧ k < 272) (h : vr 849 k = 2 ∨ vr 849 k = 3) : fX12_isEnd 814 k vr = some (1, vr) := by
  unfold fX12_isEnd
  rw [ck_t hk, ck_t hk, show (814 : Int) + 35 = 849 from rfl]
  by_cases c : vr 849 k = 2
  · rw [if_pos c]
  · rw [if_neg c, if_pos (by omega)]
/-- what reading an item writes -/
def Fi2_ (j : Int) (u w : V_) : Prop := ∀ a q, ¬ (a = 814 ∧ 40 ≤ q ∧ q ≤ 42) → ¬ ((a = 864 ∨ a = 865 ∨ a = 866 ∨ a = 868) ∧ q = j) → w a q = u a q
theorem reads_l (ht : 0 ≤ t ∧ t < 8) (hj : 0 ≤ j ∧ j < 34) (h : IL_ vr (34 * t + j)) : ∃ w, fX12_readsItem 814 t j vr = some (0, w) ∧ w 866 j = fw_ vr (34 * t + j) ∧ w 864 j = fd_ vr (34 * t + j) ∧ w 865 j = fc_ vr (34 * t + j) ∧ Fi2_ j vr w := by
  obtain ⟨hk, hl⟩ := h
  have hx : wr_ (wr_ (34 * t) + j) = 34 * t + j := ix_ ht hj
  have f1 : ∀ a q, ¬ (a = 866 ∧ q = j) → up_ vr 866 j 0 a q = vr a q := fun a q n => up_n n
  unfold fX12_readsItem
  rw [hx, lt_d, ck_t hj, lt_d]
  simp only [Int.reduceAdd]
  rw [isEnd_l (by omega) (by rw [f1 _ _ (by omega)]; exact hk), bd_s]
  try dsimp only
  rw [if_pos (show (0 : Int) = 0 from rfl), ck_t (by omega), ck_t (by omega), ck_t (by omega), ck_t (by omega), f1 _ _ (by omega), f1 _ _ (by omega), f1 _ _ (by omega), f1 _ _ (by omega)]
  obtain ⟨w, e, w1, w2, w3, w4⟩ := reck_e (v := up_ vr 866 j 0) hl
  have r9 : up_ vr 866 j 0 839 = vr 839 := funext fun k => f1 _ _ (by omega)
  have r0 : up_ vr 866 j 0 840 = vr 840 := funext fun k => f1 _ _ (by omega)
  rw [r9] at w1 w2 w3
  rw [r0] at w3
  rw [e, bd_s]
  try dsimp only
  rw [ck_t hj, ck_t (by rw [w1]; exact wf_01 _ _ _ _), lt_d, ck_t hj, lt_d, ck_t hj, lt_d]
  refine ⟨_, rfl, ?_, ?_, ?_, fun a q n n2 => ?_⟩
  · rw [up_n (by omega), up_n (by omega), up_s ⟨rfl, rfl⟩, w1]; rfl
  · rw [up_n (by omega), up_s ⟨rfl, rfl⟩, up_n (by omega), w3]; rfl
  · rw [up_s ⟨rfl, rfl⟩, up_n (by omega), up_n (by omega), w2]; rfl
  · rw [up_n (by omega), up_n (by omega), up_n (by omega), w4 a q n, f1 a q (by omega)]
theorem reads_e (ht : 0 ≤ t ∧ t < 8) (hj : 0 ≤ j ∧ j < 34) (hk : vr 849 (34 * t + j) = 2 ∨ vr 849 (34 * t + j) = 3) (h0 : 0 ≤ vr 852 (34 * t + j) ∧ vr 852 (34 * t + j) ≤ 2) (ha : VA_ (vr 855 (34 * t + j))) (hb : VA_ (vr 856 (34 * t + j))) : ∃ w, fX12_readsItem 814 t j vr = some (0, w) ∧ w 866 j = 0 ∧ w 868 j = fe_ vr (34 * t + j) ∧ Fi2_ j vr w := by
  have hx : wr_ (wr_ (34 * t) + j) = 34 * t + j := ix_ ht hj
  have f1 : ∀ a q, ¬ (a = 866 ∧ q = j) → up_ vr 866 j 0 a q = vr a q := fun a q n => up_n n
  have r9 : up_ vr 866 j 0 839 = vr 839 := funext fun k => f1 _ _ (by omega)
  have hg : fX12_goesWay 814 (34 * t + j) (up_ vr 866 j 0) = some (fe_ vr (34 * t + j), up_ vr 866 j 0) := by
    unfold fX12_goesWay fe_ ew_
    simp only [Int.reduceAdd]
    have e2 : up_ vr 866 j 0 852 (34 * t + j) = vr 852 (34 * t + j) := f1 _ _ (by omega)
    rw [ck_t (by omega)]
    by_cases c : vr 852 (34 * t + j) = 2
    · rw [if_pos (e2.trans c), if_pos c]
    · rw [if_neg (fun z => c (e2.symm.trans z)), if_neg c, ck_t (by omega)]
      by_cases c2 : vr 852 (34 * t + j) = 0
      · rw [if_pos (e2.trans c2), if_neg (show ¬ vr 852 (34 * t + j) = 1 by omega)]
      · rw [if_neg (fun z => c2 (e2.symm.trans z)), if_pos (show vr 852 (34 * t + j) = 1 by omega), ck_t (by omega), f1 855 _ (by omega), rval_e ha, bd_s, ck_t (by omega)]
        try dsimp only
        rw [f1 856 _ (by omega), rval_e hb, bd_s, r9]
        try dsimp only
        split <;> rfl
  unfold fX12_readsItem
  rw [hx, lt_d, ck_t hj, lt_d]
  simp only [Int.reduceAdd]
  rw [isEnd_e (by omega) (by rw [f1 _ _ (by omega)]; exact hk), bd_s]
  try dsimp only
  rw [if_neg n10_, hg, bd_s, ck_t hj, lt_d]
  refine ⟨_, rfl, ?_, up_s ⟨rfl, rfl⟩, fun a q n n2 => ?_⟩
  · rw [up_n (by omega)]
    try dsimp only
    rw [up_s ⟨rfl, rfl⟩]
  · rw [up_n (by omega)]
    try dsimp only
    rw [f1 a q (by omega)]
theorem sets_l (ht : 0 ≤ t ∧ t < 8) (hj : 0 ≤ j ∧ j < 34) (h : vr 849 (34 * t + j) = 0 ∨ vr 849 (34 * t + j) = 1) (hr : vr 854 (34 * t + j) < 12) (hc : vr 865 j < 8) : ∃ w, fX12_setsItem 814 t j vr = some (0, w) ∧ w = se_ (up_ (up_ vr 814 40 (vr 864 j)) 814 41 (vr 865 j)) 839 840 (vr 854 (34 * t + j)) (vr 865 j) (vr 864 j) := by
  have hx : wr_ (wr_ (34 * t) + j) = 34 * t + j := ix_ ht hj
  unfold fX12_setsItem
  rw [hx, isEnd_l (by omega) h, bd_s]
  try dsimp only
  rw [if_pos (show (0 : Int) = 0 from rfl), ck_t hj, lt_d, ck_t hj, lt_d, ck_t (by omega)]
  simp only [Int.reduceAdd]
  rw [up_n (show ¬ ((865 : Int) = 814 ∧ j = 40) by omega), up_n (show ¬ ((854 : Int) = 814 ∧ 34 * t + j = 41) by omega), up_n (show ¬ ((854 : Int) = 814 ∧ 34 * t + j = 40) by omega), rset_e hr (by rw [up_s ⟨rfl, rfl⟩]; exact hc), bd_s]
  refine ⟨_, rfl, ?_⟩
  rw [up_s ⟨rfl, rfl⟩, up_n (by decide), up_s ⟨rfl, rfl⟩]
theorem sets_e (ht : 0 ≤ t ∧ t < 8) (hj : 0 ≤ j ∧ j < 34) (h : vr 849 (34 * t + j) = 2 ∨ vr 849 (34 * t + j) = 3) : fX12_setsItem 814 t j vr = some (0, vr) := by
  have hx : wr_ (wr_ (34 * t) + j) = 34 * t + j := ix_ ht hj
  unfold fX12_setsItem
  rw [hx, isEnd_e (by omega) h, bd_s]
  rfl
end ITM
