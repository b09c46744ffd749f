/-! layer 2: what one item needs of another, in the reference -/
def MX_ (l : List (Prop × Int)) (n : Int) : Prop := (∀ q ∈ l, q.1 → q.2 ≤ n) ∧ (n = -2 ∨ ∃ q ∈ l, q.1 ∧ n = q.2) ∧ -2 ≤ n
theorem MX_0 : MX_ [] (-2) := ⟨fun _ h => (by cases h), Or.inl rfl, by decide⟩
theorem MX_y {l : List (Prop × Int)} {n x : Int} {p : Prop} (h : MX_ l n) (hp : p) : MX_ ((p, x) :: l) (if n ≤ x then x else n) := by
  obtain ⟨h1, h2, h3⟩ := h
  refine ⟨fun q hq hh => ?_, ?_, by split <;> omega⟩
  · rcases List.mem_cons.mp hq with e | e
    · rw [e]
      split <;> omega
    · have := h1 q e hh
      split <;> omega
  · by_cases c : n ≤ x
    · rw [if_pos c]
      exact Or.inr ⟨(p, x), List.mem_cons_self, hp, rfl⟩
    · rw [if_neg c]
      rcases h2 with h2 | ⟨q, q1, q2, q3⟩
      · exact Or.inl h2
      · exact Or.inr ⟨q, List.mem_cons_of_mem _ q1, q2, q3⟩
theorem MX_n {l : List (Prop × Int)} {n x : Int} {p : Prop} (h : MX_ l n) (hp : ¬ p) : MX_ ((p, x) :: l) n := by
  obtain ⟨h1, h2, h3⟩ := h
  refine ⟨fun q hq hh => ?_, ?_, h3⟩
  · rcases List.mem_cons.mp hq with e | e
    · rw [e] at hh
      exact absurd hh hp
    · exact h1 q e hh
  · rcases h2 with h2 | ⟨q, q1, q2, q3⟩
    · exact Or.inl h2
    · exact Or.inr ⟨q, List.mem_cons_of_mem _ q1, q2, q3⟩
theorem MX_u {l l' : List (Prop × Int)} {n n' : Int} (h : MX_ l n) (h' : MX_ l' n') (e : ∀ q ∈ l, q.1 → ∃ q' ∈ l', q'.1 ∧ q'.2 = q.2) (e' : ∀ q ∈ l', q.1 → ∃ q' ∈ l, q'.1 ∧ q'.2 = q.2) : n = n' := by
  have one : ∀ {l l' : List (Prop × Int)} {n n' : Int}, MX_ l n → MX_ l' n' → (∀ q ∈ l, q.1 → ∃ q' ∈ l', q'.1 ∧ q'.2 = q.2) → n ≤ n' := fun {l l' n n'} h h' e => by
    rcases h.2.1 with o | ⟨q, q1, q2, q3⟩
    · have := h'.2.2
      omega
    · obtain ⟨q', r1, r2, r3⟩ := e q q1 q2
      have := h'.1 q' r1 r2
      omega
  have a := one h h' e
  have b := one h' h e'
  omega
theorem MX_le {l : List (Prop × Int)} {n b : Int} (h : MX_ l n) (hb : -2 ≤ b) (e : ∀ q ∈ l, q.1 → q.2 ≤ b) : n ≤ b := by
  rcases h.2.1 with o | ⟨q, q1, q2, q3⟩
  · omega
  · have := e q q1 q2
    omega
abbrev rd_ (v : V_) (k r : Int) : Prop := 0 ≤ r ∧ (v 855 k = r ∨ v 856 k = r)
abbrev sto_ (v : V_) (k : Int) : Prop := v 849 k = 0 ∧ v 852 k = 2
abbrev loa_ (v : V_) (k : Int) : Prop := v 849 k = 0 ∧ v 852 k = 1
def lat_ (g v : V_) (k : Int) : Int := g 11 (43 + v 851 k)
def kep_ (g : V_) (L : Int → Int) (v : V_) (a b : Int) : Prop := v 849 b = 2 ∨ v 849 b = 3 ∨ sto_ v b ∨ (0 ≤ v 854 b ∧ v 854 b ≤ 5 ∧ bt_ (L (g 10 (2 * v 850 a + v 857 a))) (v 854 b) = true)
def nL_ (g : V_) (L : Int → Int) (v : V_) (t i j : Int) : List (Prop × Int) := [((v 849 (34 * t + j) = 3), 0), ((v 849 (34 * t + i) = 2 ∧ kep_ g L v (34 * t + i) (34 * t + j)), 1), ((sto_ v (34 * t + i) ∧ sto_ v (34 * t + j)), 1), ((loa_ v (34 * t + i) ∧ sto_ v (34 * t + j)), 0), ((sto_ v (34 * t + i) ∧ loa_ v (34 * t + j)), lat_ g v (34 * t + i)), ((0 ≤ v 854 (34 * t + i) ∧ v 854 (34 * t + i) = v 854 (34 * t + j)), (if 1 ≤ lat_ g v (34 * t + i) - lat_ g v (34 * t + j) + 1 then lat_ g v (34 * t + i) - lat_ g v (34 * t + j) + 1 else 1)), (rd_ v (34 * t + i) (v 854 (34 * t + j)), 0), ((rd_ v (34 * t + j) (v 854 (34 * t + i)) ∧ ∀ k, i < k → k < j → v 854 (34 * t + k) ≠ v 854 (34 * t + i)), lat_ g v (34 * t + i))]
/-- what holds of the reference's items of a trace -/
def IV_ (g v : V_) (t m : Int) : Prop := (1 ≤ m ∧ m ≤ 34) ∧ ∀ j, 0 ≤ j → j < m → (0 ≤ v 851 (34 * t + j) ∧ v 851 (34 * t + j) < 4) ∧ (v 849 (34 * t + j) = 2 → (0 ≤ v 850 (34 * t + j) ∧ v 850 (34 * t + j) < g 0 0) ∧ (0 ≤ v 857 (34 * t + j) ∧ v 857 (34 * t + j) < 2) ∧ 0 ≤ g 10 (2 * v 850 (34 * t + j) + v 857 (34 * t + j)) ∧ g 10 (2 * v 850 (34 * t + j) + v 857 (34 * t + j)) < g 0 0)
theorem more_e (a b : Int) (v : V_) : fX12_more a b v = some (if a ≤ b then b else a, v) := by
  unfold fX12_more
  split <;> rfl
section RNEED
variable {g v : V_} {L : Int → Int} {t m i j : Int}
theorem rd_e {k r : Int} (hk : 0 ≤ k ∧ k < 272) : fX12_doesRead 814 k r v = some (if rd_ v k r then 1 else 0, v) := by
  unfold fX12_doesRead
  by_cases c : r < 0
  · rw [if_pos c, if_neg (by omega)]
  · rw [if_neg c, ck_t hk, show (814 + 41 : Int) = 855 from rfl, show (814 + 42 : Int) = 856 from rfl]
    by_cases d : v 855 k = r
    · rw [if_pos d, if_pos ⟨by omega, Or.inl d⟩]
    · rw [if_neg d, ck_t hk]
      by_cases e : v 856 k = r
      · rw [if_pos e, if_pos ⟨by omega, Or.inr e⟩]
      · rw [if_neg e, if_neg (fun q => q.2.elim d e)]
theorem sto_e {k : Int} (hk : 0 ≤ k ∧ k < 272) : fX12_isStore 814 k v = some (if sto_ v k then 1 else 0, v) := by
  unfold fX12_isStore
  rw [ck_t hk, show (814 + 35 : Int) = 849 from rfl, show (814 + 38 : Int) = 852 from rfl]
  by_cases c : v 849 k = 0
  · rw [if_pos c, ck_t hk]
    by_cases d : v 852 k = 2
    · rw [if_pos d, if_pos ⟨c, d⟩]
    · rw [if_neg d, if_neg (fun q => d q.2)]
  · rw [if_neg c, if_neg (fun q => c q.1)]
theorem loa_e {k : Int} (hk : 0 ≤ k ∧ k < 272) : fX12_isLoad 814 k v = some (if loa_ v k then 1 else 0, v) := by
  unfold fX12_isLoad
  rw [ck_t hk, show (814 + 35 : Int) = 849 from rfl, show (814 + 38 : Int) = 852 from rfl]
  by_cases c : v 849 k = 0
  · rw [if_pos c, ck_t hk]
    by_cases d : v 852 k = 1
    · rw [if_pos d, if_pos ⟨c, d⟩]
    · rw [if_neg d, if_neg (fun q => d q.2)]
  · rw [if_neg c, if_neg (fun q => c q.1)]
theorem takes_e (hD : D_ v g) (ht : 0 ≤ t ∧ t < 8) (hV : IV_ g v t m) (hi : 0 ≤ i ∧ i < m) : fX12_takesItem 814 (34 * t + i) v = some (lat_ g v (34 * t + i), v) := by
  have := hV.1
  unfold fX12_takesItem lat_
  rw [ck_t (by omega), show (814 + 37 : Int) = 851 from rfl, takesOf_e hD (hV.2 i hi.1 hi.2).1, bd_s]
theorem kept_e (hw : WF_ g) (hD : D_ v g) (ht : 0 ≤ t ∧ t < 8) (hL : ∀ b, 0 ≤ b → b < g 0 0 → v 843 b = L b ∧ r6_ (L b)) (hV : IV_ g v t m) (hi : 0 ≤ i ∧ i < m) (hj : 0 ≤ j ∧ j < m) (h2 : v 849 (34 * t + i) = 2) : ∃ r, fX12_isKept 814 (34 * t + i) (34 * t + j) v = some (r, v) ∧ ((r = 1 ∧ kep_ g L v (34 * t + i) (34 * t + j)) ∨ (r = 0 ∧ ¬ kep_ g L v (34 * t + i) (34 * t + j))) := by
  have hm := hV.1
  have hn := hw.1
  obtain ⟨o1, o2, o3, o4⟩ := (hV.2 i hi.1 hi.2).2 h2
  obtain ⟨l1, l2⟩ := hL _ o3 o4
  unfold r6_ at l2
  unfold fX12_isKept kep_
  rw [ck_t (by omega), show (814 + 35 : Int) = 849 from rfl]
  by_cases c1 : v 849 (34 * t + j) = 2
  · rw [if_pos c1]
    exact ⟨1, rfl, Or.inl ⟨rfl, Or.inl c1⟩⟩
  · rw [if_neg c1, ck_t (by omega)]
    by_cases c2 : v 849 (34 * t + j) = 3
    · rw [if_pos c2]
      exact ⟨1, rfl, Or.inl ⟨rfl, Or.inr (Or.inl c2)⟩⟩
    · rw [if_neg c2, sto_e (by omega), bd_s]
      try dsimp only
      by_cases c3 : sto_ v (34 * t + j)
      · rw [if_pos c3, if_neg n10_]
        exact ⟨1, rfl, Or.inl ⟨rfl, Or.inr (Or.inr (Or.inl c3))⟩⟩
      · rw [if_neg c3, if_pos rfl, ck_t (by omega), show (814 + 40 : Int) = 854 from rfl, lt_d]
        unfold fX12_in
        by_cases c4 : v 854 (34 * t + j) < 0
        · rw [if_pos c4, bd_s, if_pos rfl]
          exact ⟨0, rfl, Or.inr ⟨rfl, by rintro (q | q | q | q) <;> first | omega | exact c3 q⟩⟩
        · rw [if_neg c4]
          by_cases c5 : 5 < v 854 (34 * t + j)
          · rw [if_pos c5, bd_s, if_pos rfl]
            exact ⟨0, rfl, Or.inr ⟨rfl, by rintro (q | q | q | q) <;> first | omega | exact c3 q⟩⟩
          · rw [if_neg c5, bd_s, if_neg n10_]
            try dsimp only
            rw [ck_t (by omega), ck_t (by omega), show (814 + 36 : Int) = 850 from rfl, show (814 + 43 : Int) = 857 from rfl, wayTo_e hD (by omega) o2, bd_s]
            try dsimp only
            rw [ck_t (by omega), show (814 + 29 : Int) = 843 from rfl]
            have hb : bA_ (sR_ (v 843 (g 10 (2 * v 850 (34 * t + i) + v 857 (34 * t + i)))) (v 854 (34 * t + j))) 1 = if bt_ (L (g 10 (2 * v 850 (34 * t + i) + v 857 (34 * t + i)))) (v 854 (34 * t + j)) then 1 else 0 := by rw [l1, bit_e (by omega) (by omega)]
            cases e : bt_ (L (g 10 (2 * v 850 (34 * t + i) + v 857 (34 * t + i)))) (v 854 (34 * t + j))
            · rw [if_neg (by rw [hb, e]; decide)]
              refine ⟨0, rfl, Or.inr ⟨rfl, ?_⟩⟩
              rintro (q | q | q | q)
              · omega
              · omega
              · exact c3 q
              · exact absurd q.2.2 (by decide)
            · rw [if_pos (by rw [hb, e]; rfl)]
              exact ⟨1, rfl, Or.inl ⟨rfl, Or.inr (Or.inr (Or.inr ⟨by omega, by omega, rfl⟩))⟩⟩
theorem lset_I (ht : 0 ≤ t ∧ t < 8) (hV : IV_ g v t m) (hi : 0 ≤ i ∧ i < j) (hj : j < m) : ∃ r, fX12_isLastSet 814 (34 * t + i) (34 * t + j) v = some (r, v) ∧ ((r = 1 ∧ (rd_ v (34 * t + j) (v 854 (34 * t + i)) ∧ ∀ k, i < k → k < j → v 854 (34 * t + k) ≠ v 854 (34 * t + i))) ∨ (r = 0 ∧ ¬ (rd_ v (34 * t + j) (v 854 (34 * t + i)) ∧ ∀ k, i < k → k < j → v 854 (34 * t + k) ≠ v 854 (34 * t + i)))) := by
  have hm := hV.1
  unfold fX12_isLastSet
  rw [ck_t (by omega), show (814 + 40 : Int) = 854 from rfl, rd_e (by omega), bd_s]
  try dsimp only
  by_cases c : rd_ v (34 * t + j) (v 854 (34 * t + i))
  · rw [if_pos c, if_neg n10_, wr_id (by omega), lt_d]
    have key := lp_x (σ := Unit) (α := Option (Int × V_)) (F := fun n k _ => fX12_isLastSet_20 n 814 (34 * t + i) (34 * t + j) (34 * t + k) v) (K := fun _ => some (1, v)) (e := j) (Q := fun o => o = some (0, v) ∧ ∃ k, i < k ∧ k < j ∧ v 854 (34 * t + k) = v 854 (34 * t + i)) (I := fun k _ => i < k ∧ ∀ l, i < l → l < k → v 854 (34 * t + l) ≠ v 854 (34 * t + i)) (fun n k s h hk => by
      obtain ⟨k0, h1⟩ := h
      rw [fX12_isLastSet_20, if_neg (by omega), ck_t (by omega), ck_t (by omega), show (814 + 40 : Int) = 854 from rfl, wr_id (by omega), show 34 * t + k + 1 = 34 * t + (k + 1) by omega]
      by_cases d : v 854 (34 * t + k) = v 854 (34 * t + i)
      · right
        exact ⟨by rw [if_pos d], k, k0, hk, d⟩
      · left
        refine ⟨(), by rw [if_neg d, lt_d], by omega, fun l l0 l1 => ?_⟩
        by_cases e : l = k
        · rw [e]; exact d
        · exact h1 l l0 (by omega)) (fun n s _ => by
      rw [fX12_isLastSet_20, if_pos (by omega)]) (j - (i + 1)).toNat fu_ (i + 1) () ⟨by omega, fun l l0 l1 => by omega⟩ (by omega) (by unfold fu_; omega)
    rw [show 34 * t + (i + 1) = 34 * t + i + 1 by omega] at key
    rcases key with ⟨_, k1, -, k2⟩ | ⟨k1, k, k2, k3, k4⟩
    · exact ⟨1, k1, Or.inl ⟨rfl, c, k2⟩⟩
    · exact ⟨0, k1, Or.inr ⟨rfl, fun q => q.2 k k2 k3 k4⟩⟩
  · rw [if_neg c, if_pos rfl]
    exact ⟨0, rfl, Or.inr ⟨rfl, fun q => c q.1⟩⟩
theorem need_e (hw : WF_ g) (hg : RG_ g) (hD : D_ v g) (ht : 0 ≤ t ∧ t < 8) (hL : ∀ b, 0 ≤ b → b < g 0 0 → v 843 b = L b ∧ r6_ (L b)) (hV : IV_ g v t m) (hi : 0 ≤ i ∧ i < j) (hj : j < m) : ∃ n, fX12_needOf 814 (34 * t + i) (34 * t + j) v = some (n, v) ∧ MX_ (nL_ g L v t i j) n := by
  have hm := hV.1
  have hi' : 0 ≤ i ∧ i < m := by omega
  have hj' : 0 ≤ j ∧ j < m := by omega
  have ki := (hV.2 i hi'.1 hi'.2).1
  have kj := (hV.2 j hj'.1 hj'.2).1
  have li := hg.2.2.2.2 (43 + v 851 (34 * t + i)) (by omega) (by omega)
  have lj := hg.2.2.2.2 (43 + v 851 (34 * t + j)) (by omega) (by omega)
  have ti := takes_e hD ht hV hi'
  have tj := takes_e hD ht hV hj'
  have Ai : 0 ≤ 34 * t + i ∧ 34 * t + i < 272 := by omega
  have Aj : 0 ≤ 34 * t + j ∧ 34 * t + j < 272 := by omega
  -- from the last step on
  have sH : ∀ n l, MX_ l n → ∃ r, fX12_needOf_183 814 (34 * t + j) n v = some (r, v) ∧ MX_ ((v 849 (34 * t + j) = 3, 0) :: l) r := fun n l h => by
    unfold fX12_needOf_183
    rw [ck_t Aj, show (814 + 35 : Int) = 849 from rfl]
    by_cases c : v 849 (34 * t + j) = 3
    · rw [if_pos c, more_e, bd_s]
      exact ⟨_, rfl, MX_y h c⟩
    · rw [if_neg c]
      exact ⟨_, rfl, MX_n h c⟩
  have sG : ∀ n l, MX_ l n → ∃ r, fX12_needOf_158 814 (34 * t + i) (34 * t + j) n v = some (r, v) ∧ MX_ ((v 849 (34 * t + j) = 3, 0) :: ((v 849 (34 * t + i) = 2 ∧ kep_ g L v (34 * t + i) (34 * t + j)), 1) :: l) r := fun n l h => by
    unfold fX12_needOf_158
    rw [ck_t Ai, show (814 + 35 : Int) = 849 from rfl]
    by_cases c : v 849 (34 * t + i) = 2
    · obtain ⟨r, e, o⟩ := kept_e hw hD ht hL hV hi' hj' c
      rw [if_pos c, e, bd_s]
      try dsimp only
      rcases o with ⟨o, o2⟩ | ⟨o, o2⟩
      · rw [if_neg (by omega), more_e, bd_s]
        exact sH _ _ (MX_y h ⟨c, o2⟩)
      · rw [if_pos o]
        exact sH _ _ (MX_n h fun q => o2 q.2)
    · rw [if_neg c]
      exact sH _ _ (MX_n h fun q => c q.1)
  have sF : ∀ n l, MX_ l n → ∃ r, fX12_needOf_136 814 (34 * t + i) (34 * t + j) n v = some (r, v) ∧ MX_ ((v 849 (34 * t + j) = 3, 0) :: ((v 849 (34 * t + i) = 2 ∧ kep_ g L v (34 * t + i) (34 * t + j)), 1) :: ((sto_ v (34 * t + i) ∧ sto_ v (34 * t + j)), 1) :: l) r := fun n l h => by
    unfold fX12_needOf_136
    rw [sto_e Ai, bd_s]
    try dsimp only
    by_cases c : sto_ v (34 * t + i)
    · rw [if_pos c, if_neg n10_, sto_e Aj, bd_s]
      try dsimp only
      by_cases d : sto_ v (34 * t + j)
      · rw [if_pos d, if_neg n10_, more_e, bd_s]
        exact sG _ _ (MX_y h ⟨c, d⟩)
      · rw [if_neg d, if_pos rfl]
        exact sG _ _ (MX_n h fun q => d q.2)
    · rw [if_neg c, if_pos rfl]
      exact sG _ _ (MX_n h fun q => c q.1)
  have sE : ∀ n l, MX_ l n → ∃ r, fX12_needOf_114 814 (34 * t + i) (34 * t + j) n v = some (r, v) ∧ MX_ ((v 849 (34 * t + j) = 3, 0) :: ((v 849 (34 * t + i) = 2 ∧ kep_ g L v (34 * t + i) (34 * t + j)), 1) :: ((sto_ v (34 * t + i) ∧ sto_ v (34 * t + j)), 1) :: ((loa_ v (34 * t + i) ∧ sto_ v (34 * t + j)), 0) :: l) r := fun n l h => by
    unfold fX12_needOf_114
    rw [loa_e Ai, bd_s]
    try dsimp only
    by_cases c : loa_ v (34 * t + i)
    · rw [if_pos c, if_neg n10_, sto_e Aj, bd_s]
      try dsimp only
      by_cases d : sto_ v (34 * t + j)
      · rw [if_pos d, if_neg n10_, more_e, bd_s]
        exact sF _ _ (MX_y h ⟨c, d⟩)
      · rw [if_neg d, if_pos rfl]
        exact sF _ _ (MX_n h fun q => d q.2)
    · rw [if_neg c, if_pos rfl]
      exact sF _ _ (MX_n h fun q => c q.1)
  have sD : ∀ n l, MX_ l n → ∃ r, fX12_needOf_88 814 (34 * t + i) (34 * t + j) n v = some (r, v) ∧ MX_ ((v 849 (34 * t + j) = 3, 0) :: ((v 849 (34 * t + i) = 2 ∧ kep_ g L v (34 * t + i) (34 * t + j)), 1) :: ((sto_ v (34 * t + i) ∧ sto_ v (34 * t + j)), 1) :: ((loa_ v (34 * t + i) ∧ sto_ v (34 * t + j)), 0) :: ((sto_ v (34 * t + i) ∧ loa_ v (34 * t + j)), lat_ g v (34 * t + i)) :: l) r := fun n l h => by
    unfold fX12_needOf_88
    rw [sto_e Ai, bd_s]
    try dsimp only
    by_cases c : sto_ v (34 * t + i)
    · rw [if_pos c, if_neg n10_, loa_e Aj, bd_s]
      try dsimp only
      by_cases d : loa_ v (34 * t + j)
      · rw [if_pos d, if_neg n10_, ti, bd_s, more_e, bd_s]
        exact sE _ _ (MX_y h ⟨c, d⟩)
      · rw [if_neg d, if_pos rfl]
        exact sE _ _ (MX_n h fun q => d q.2)
    · rw [if_neg c, if_pos rfl]
      exact sE _ _ (MX_n h fun q => c q.1)
  have sC : ∀ n l, MX_ l n → ∃ r, fX12_needOf_42 814 (34 * t + i) (34 * t + j) n v = some (r, v) ∧ MX_ ((v 849 (34 * t + j) = 3, 0) :: ((v 849 (34 * t + i) = 2 ∧ kep_ g L v (34 * t + i) (34 * t + j)), 1) :: ((sto_ v (34 * t + i) ∧ sto_ v (34 * t + j)), 1) :: ((loa_ v (34 * t + i) ∧ sto_ v (34 * t + j)), 0) :: ((sto_ v (34 * t + i) ∧ loa_ v (34 * t + j)), lat_ g v (34 * t + i)) :: ((0 ≤ v 854 (34 * t + i) ∧ v 854 (34 * t + i) = v 854 (34 * t + j)), (if 1 ≤ lat_ g v (34 * t + i) - lat_ g v (34 * t + j) + 1 then lat_ g v (34 * t + i) - lat_ g v (34 * t + j) + 1 else 1)) :: l) r := fun n l h => by
    unfold fX12_needOf_42
    rw [ck_t Ai, show (814 + 40 : Int) = 854 from rfl]
    by_cases c : v 854 (34 * t + i) < 0
    · rw [if_pos c]
      exact sD _ _ (MX_n h fun q => by omega)
    · rw [if_neg c, ck_t Ai, ck_t Aj]
      by_cases d : v 854 (34 * t + i) = v 854 (34 * t + j)
      · rw [if_pos d, ti, bd_s, tj, bd_s]
        try dsimp only
        have e1 : wr_ (wr_ (lat_ g v (34 * t + i) - lat_ g v (34 * t + j)) + 1) = lat_ g v (34 * t + i) - lat_ g v (34 * t + j) + 1 := by
          unfold lat_
          rw [wr_id (show -2147483648 ≤ g 11 (43 + v 851 (34 * t + i)) - g 11 (43 + v 851 (34 * t + j)) ∧ g 11 (43 + v 851 (34 * t + i)) - g 11 (43 + v 851 (34 * t + j)) < 2147483648 by omega), wr_id (by omega)]
        rw [e1, more_e, bd_s, more_e, bd_s]
        exact sD _ _ (MX_y h ⟨by omega, d⟩)
      · rw [if_neg d]
        exact sD _ _ (MX_n h fun q => d q.2)
  have sB : ∀ n l, MX_ l n → ∃ r, fX12_needOf_22 814 (34 * t + i) (34 * t + j) n v = some (r, v) ∧ MX_ ((v 849 (34 * t + j) = 3, 0) :: ((v 849 (34 * t + i) = 2 ∧ kep_ g L v (34 * t + i) (34 * t + j)), 1) :: ((sto_ v (34 * t + i) ∧ sto_ v (34 * t + j)), 1) :: ((loa_ v (34 * t + i) ∧ sto_ v (34 * t + j)), 0) :: ((sto_ v (34 * t + i) ∧ loa_ v (34 * t + j)), lat_ g v (34 * t + i)) :: ((0 ≤ v 854 (34 * t + i) ∧ v 854 (34 * t + i) = v 854 (34 * t + j)), (if 1 ≤ lat_ g v (34 * t + i) - lat_ g v (34 * t + j) + 1 then lat_ g v (34 * t + i) - lat_ g v (34 * t + j) + 1 else 1)) :: (rd_ v (34 * t + i) (v 854 (34 * t + j)), 0) :: l) r := fun n l h => by
    unfold fX12_needOf_22
    rw [ck_t Aj, show (814 + 40 : Int) = 854 from rfl, rd_e Ai, bd_s]
    try dsimp only
    by_cases c : rd_ v (34 * t + i) (v 854 (34 * t + j))
    · rw [if_pos c, if_neg n10_, more_e, bd_s]
      exact sC _ _ (MX_y h c)
    · rw [if_neg c, if_pos rfl]
      exact sC _ _ (MX_n h c)
  unfold fX12_needOf
  obtain ⟨r, e, o⟩ := lset_I ht hV hi hj
  rw [e, bd_s]
  try dsimp only
  rcases o with ⟨o, o2⟩ | ⟨o, o2⟩
  · rw [if_neg (by omega), ti, bd_s, more_e, bd_s]
    exact sB _ _ (MX_y MX_0 o2)
  · rw [if_pos o]
    exact sB _ _ (MX_n MX_0 o2)
end RNEED
