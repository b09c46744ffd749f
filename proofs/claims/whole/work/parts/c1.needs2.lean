/-! layer 2: what one item needs of another, in the class -/
theorem MX_c {l l' : List (Prop × Int)} {n : Int} (h : MX_ l n) (e : ∀ q ∈ l, q.1 → ∃ q' ∈ l', q'.1 ∧ q'.2 = q.2) (e' : ∀ q ∈ l', q.1 → ∃ q' ∈ l, q'.1 ∧ q'.2 = q.2) : MX_ l' n := by
  obtain ⟨h1, h2, h3⟩ := h
  refine ⟨fun q hq hh => ?_, ?_, h3⟩
  · obtain ⟨q', a, b, c⟩ := e' q hq hh
    have := h1 q' a b
    omega
  · rcases h2 with h2 | ⟨q, a, b, c⟩
    · exact Or.inl h2
    · obtain ⟨q', a', b', c'⟩ := e q a b
      exact Or.inr ⟨q', a', b', by omega⟩
theorem mx_e (a b : Int) : mx_ a b = if a ≤ b then b else a := by
  unfold mx_
  split <;> split <;> omega
theorem kind_li {v : V_} {y s o r a b : Int} (h : v y 0 = opc_ s o) (hl : LI_ s o r a b) : fX8_kindOf y v = some (kn_ s o, v) := by
  unfold fX8_kindOf
  rw [h]
  rcases LI_cases hl with ⟨rfl, rfl⟩ | ⟨rfl, rfl⟩ | ⟨rfl, rfl⟩ | ⟨rfl, rfl⟩ | ⟨rfl, rfl, -⟩ | ⟨rfl, rfl, -⟩ <;> rfl
section CNEED
variable {g vc vr : V_} {L : Int → Int} {y k : Int}
theorem IE_kind (h : IE_ g vc y vr k) : fX8_kindOf (y + 1) vc = some (vr 851 k, vc) ∧ 0 ≤ vr 851 k ∧ vr 851 k < 4 := by
  obtain ⟨-, -, -, -, -, -, -, -, o⟩ := h
  rcases o with ⟨o1, o2, o3, o4, -⟩ | ⟨o1, o2, o3, o4, o5, o6, o7, -⟩ | ⟨o1, o2, o3, o4, o5, -⟩ | ⟨o1, o2, o3, o4, o5, -⟩
  · rw [o4]
    refine ⟨kind_li o2 o3, ?_⟩
    unfold kn_
    split <;> (try split) <;> omega
  · rw [o7]
    exact ⟨kind_copy o2, by decide, by decide⟩
  · rw [o5]
    exact ⟨kind_end (e := 1) (by rw [o2]; rfl) (by decide), by decide, by decide⟩
  · rw [o5]
    exact ⟨kind_end o2 o3, by decide, by decide⟩
theorem IE_op (h : IE_ g vc y vr k) : (vc (y + 1) 0 = 5 ↔ sto_ vr k) ∧ (vc (y + 1) 0 = 4 ↔ loa_ vr k) := by
  obtain ⟨-, -, -, -, -, -, -, -, o⟩ := h
  rcases o with ⟨o1, o2, o3, o4, -⟩ | ⟨o1, o2, o3, o4, o5, o6, o7, -⟩ | ⟨o1, o2, o3, o4, o5, -⟩ | ⟨o1, o2, o3, o4, o5, -⟩
  · unfold opc_ at o2
    obtain ⟨o3, -, -⟩ := o3
    split at o2
    · omega
    · split at o2 <;> omega
  · omega
  · omega
  · omega
theorem IE_sets (h : IE_ g vc y vr k) : vr 854 k = -2 ∨ (0 ≤ vr 854 k ∧ vr 854 k < 12) := by
  obtain ⟨-, -, -, -, -, -, -, -, o⟩ := h
  rcases o with ⟨o1, o2, ⟨o3, -, -⟩, o4, -⟩ | ⟨o1, o2, o3, o4, o5, o6, o7, -⟩ | ⟨o1, o2, o3, o4, o5, -⟩ | ⟨o1, o2, o3, o4, o5, -⟩ <;> omega
theorem IE_V {t m : Int} (hm : 1 ≤ m ∧ m ≤ 34) (h : ∀ j, 0 ≤ j → j < m → IE_ g vc (207 + 75 * t + 2 * j) vr (34 * t + j)) : IV_ g vr t m := by
  refine ⟨hm, fun j j0 j1 => ⟨(IE_kind (h j j0 j1)).2, fun e => ?_⟩⟩
  obtain ⟨-, -, o3, -, -, -, -, -, o⟩ := h j j0 j1
  rcases o with ⟨o1, -⟩ | ⟨o1, -⟩ | ⟨-, -, -, -, -, -, p1, p2, p3, p4⟩ | ⟨o1, -⟩
  · omega
  · omega
  · rw [p2] at p3 p4
    exact ⟨o3, p1, p3, p4⟩
  · omega
theorem vl_inj {a r : Int} (ha : VA_ a) (hr : 0 ≤ r ∧ r < 12) : vl_ a = -1 - r ↔ a = r := by
  unfold vl_
  unfold VA_ at ha
  split <;> omega
theorem looks_e (h : IE_ g vc y vr k) {r : Int} (hr : r = -2 ∨ (0 ≤ r ∧ r < 12)) : fX8_looksAt (y + 1) r vc = some (if rd_ vr k r then 1 else 0, vc) := by
  obtain ⟨-, -, -, -, h2, h3, va, vb, -⟩ := h
  unfold fX8_looksAt
  by_cases c : r < 0
  · rw [if_pos c, if_neg (by omega)]
  · have hr' : 0 ≤ r ∧ r < 12 := by omega
    rw [if_neg c, bX_m (show iR_ r by unfold iR_; omega), h2, h3]
    by_cases d : vr 855 k = r
    · rw [if_pos ((vl_inj va hr').mpr d), if_pos ⟨by omega, Or.inl d⟩]
    · rw [if_neg (fun q => d ((vl_inj va hr').mp q))]
      by_cases e : vr 856 k = r
      · rw [if_pos ((vl_inj vb hr').mpr e), if_pos ⟨by omega, Or.inr e⟩]
      · rw [if_neg (fun q => e ((vl_inj vb hr').mp q)), if_neg (fun q => q.2.elim d e)]
theorem does_e (op : Int) {P : Prop} [Decidable P] (h : vc (y + 1) 0 = op ↔ P) : fX1_does y op vc = some (if P then 1 else 0, vc) := by
  unfold fX1_does
  by_cases c : P
  · rw [if_pos (h.mpr c), if_pos c]
  · rw [if_neg (fun q => c (h.mp q)), if_neg c]
theorem splt_e (h : IE_ g vc y vr k) : fX1_isSplit y vc = some (if vr 849 k = 2 then 1 else 0, vc) := by
  unfold fX1_isSplit
  rw [h.1]
  split <;> rfl
def oL_ (g : V_) (L : Int → Int) (v : V_) (t i j : Int) : List (Prop × Int) := [((0 ≤ v 854 (34 * t + i) ∧ v 854 (34 * t + i) = v 854 (34 * t + j)), (if 1 ≤ lat_ g v (34 * t + i) - lat_ g v (34 * t + j) + 1 then lat_ g v (34 * t + i) - lat_ g v (34 * t + j) + 1 else 1)), ((sto_ v (34 * t + i) ∧ loa_ v (34 * t + j)), lat_ g v (34 * t + i)), (((sto_ v (34 * t + i) ∧ sto_ v (34 * t + j)) ∨ (v 849 (34 * t + i) = 2 ∧ kep_ g L v (34 * t + i) (34 * t + j))), 1), ((v 849 (34 * t + j) = 3 ∨ rd_ v (34 * t + i) (v 854 (34 * t + j)) ∨ (loa_ v (34 * t + i) ∧ sto_ v (34 * t + j))), 0)]
theorem waits_e {p t i j : Int} (hn : g 0 0 ≤ 8) (hI : IE_ g vc (207 + 75 * t + 2 * i) vr (34 * t + i)) (hJ : IE_ g vc (207 + 75 * t + 2 * j) vr (34 * t + j)) (hL : ∀ b, 0 ≤ b → b < g 0 0 → vc (p + 5) b = L b ∧ r6_ (L b)) (h2 : vr 849 (34 * t + i) = 2) : ∃ r, fX10_waitsForSplit (207 + 75 * t + 2 * i) (207 + 75 * t + 2 * j) p vc = some (r, vc) ∧ ((r = 1 ∧ kep_ g L vr (34 * t + i) (34 * t + j)) ∨ (r = 0 ∧ ¬ kep_ g L vr (34 * t + i) (34 * t + j))) := by
  have hs := IE_sets hJ
  have hop := (IE_op hJ).1
  obtain ⟨j1, -, -, j4, -⟩ := id hJ
  have hoff : vc (207 + 75 * t + 2 * i) 5 = g 10 (2 * vr 850 (34 * t + i) + vr 857 (34 * t + i)) ∧ 0 ≤ vc (207 + 75 * t + 2 * i) 5 ∧ vc (207 + 75 * t + 2 * i) 5 < g 0 0 := by
    obtain ⟨-, -, -, -, -, -, -, -, o⟩ := hI
    rcases o with ⟨o1, -⟩ | ⟨o1, -⟩ | ⟨-, -, -, -, -, -, -, p2, p3, p4⟩ | ⟨o1, -⟩
    · omega
    · omega
    · exact ⟨p2, p3, p4⟩
    · omega
  obtain ⟨f1, f2, f3⟩ := hoff
  obtain ⟨l1, l2⟩ := hL _ f2 f3
  unfold r6_ at l2
  have fin : ∀ s, (s = 1 ∧ (0 ≤ vr 854 (34 * t + j) ∧ vr 854 (34 * t + j) ≤ 5 ∧ bt_ (L (g 10 (2 * vr 850 (34 * t + i) + vr 857 (34 * t + i)))) (vr 854 (34 * t + j)) = true)) ∨ (s = 0 ∧ ¬ (0 ≤ vr 854 (34 * t + j) ∧ vr 854 (34 * t + j) ≤ 5 ∧ bt_ (L (g 10 (2 * vr 850 (34 * t + i) + vr 857 (34 * t + i)))) (vr 854 (34 * t + j)) = true)) → ∃ r, fX10_waitsForSplit_40 (207 + 75 * t + 2 * j) s vc = some (r, vc) ∧ ((r = 1 ∧ kep_ g L vr (34 * t + i) (34 * t + j)) ∨ (r = 0 ∧ ¬ kep_ g L vr (34 * t + i) (34 * t + j))) := fun s hs => by
    unfold fX10_waitsForSplit_40 kep_
    rw [splt_e hJ, bd_s]
    try dsimp only
    by_cases c1 : vr 849 (34 * t + j) = 2
    · rw [if_pos c1, if_neg n10_]
      exact ⟨1, rfl, Or.inl ⟨rfl, Or.inl c1⟩⟩
    · rw [if_neg c1, if_pos rfl]
      by_cases c2 : vr 849 (34 * t + j) = 3
      · rw [if_pos (j1.trans c2)]
        exact ⟨1, rfl, Or.inl ⟨rfl, Or.inr (Or.inl c2)⟩⟩
      · rw [if_neg (by rw [j1]; exact c2), does_e 5 hop, bd_s]
        try dsimp only
        by_cases c3 : sto_ vr (34 * t + j)
        · rw [if_pos c3, if_neg n10_]
          exact ⟨1, rfl, Or.inl ⟨rfl, Or.inr (Or.inr (Or.inl c3))⟩⟩
        · rw [if_neg c3, if_pos rfl]
          rcases hs with ⟨s1, s2⟩ | ⟨s1, s2⟩
          · rw [if_neg (by omega)]
            exact ⟨1, rfl, Or.inl ⟨rfl, Or.inr (Or.inr (Or.inr s2))⟩⟩
          · rw [if_pos s1]
            refine ⟨0, rfl, Or.inr ⟨rfl, ?_⟩⟩
            rintro (q | q | q | q)
            · exact c1 q
            · exact c2 q
            · exact c3 q
            · exact s2 q
  unfold fX10_waitsForSplit fX10_waitsForSplit_39
  rw [j4, lt_d]
  by_cases c : vr 854 (34 * t + j) < 0
  · rw [if_pos c]
    exact fin 0 (Or.inr ⟨rfl, fun q => by omega⟩)
  · rw [if_neg c]
    by_cases d : 6 ≤ vr 854 (34 * t + j)
    · rw [if_pos d]
      exact fin 0 (Or.inr ⟨rfl, fun q => by omega⟩)
    · rw [if_neg d, ck_t (by omega)]
      have hb : bA_ (sR_ (vc (p + 5) (vc (207 + 75 * t + 2 * i) 5)) (vr 854 (34 * t + j))) 1 = if bt_ (L (g 10 (2 * vr 850 (34 * t + i) + vr 857 (34 * t + i)))) (vr 854 (34 * t + j)) then 1 else 0 := by
        rw [l1, f1] at *
        rw [bit_e (by omega) (by omega)]
      cases e : bt_ (L (g 10 (2 * vr 850 (34 * t + i) + vr 857 (34 * t + i)))) (vr 854 (34 * t + j))
      · rw [if_neg (by rw [hb, e]; decide)]
        exact fin 0 (Or.inr ⟨rfl, fun q => by rw [e] at q; exact absurd q.2.2 (by decide)⟩)
      · rw [if_pos (by rw [hb, e]; rfl)]
        exact fin 1 (Or.inl ⟨rfl, by omega, by omega, e⟩)
theorem order_e {p t i j : Int} (hn : g 0 0 ≤ 8) (hg : RG_ g) (hI : IE_ g vc (207 + 75 * t + 2 * i) vr (34 * t + i)) (hJ : IE_ g vc (207 + 75 * t + 2 * j) vr (34 * t + j)) (hL : ∀ b, 0 ≤ b → b < g 0 0 → vc (p + 5) b = L b ∧ r6_ (L b)) (hli : vc (207 + 75 * t + 2 * i) 3 = lat_ g vr (34 * t + i)) (hlj : vc (207 + 75 * t + 2 * j) 3 = lat_ g vr (34 * t + j)) : ∃ n, fX10_needOfOrder (207 + 75 * t + 2 * i) (207 + 75 * t + 2 * j) p vc = some (n, vc) ∧ MX_ (oL_ g L vr t i j) n := by
  have hs := IE_sets hJ
  obtain ⟨hst, hld⟩ := IE_op hJ
  obtain ⟨his, hil⟩ := IE_op hI
  obtain ⟨i1, -, -, i4, -⟩ := id hI
  obtain ⟨j1, -, -, j4, -⟩ := id hJ
  have ki := (IE_kind hI).2
  have kj := (IE_kind hJ).2
  have li := hg.2.2.2.2 (43 + vr 851 (34 * t + i)) (by omega) (by omega)
  have lj := hg.2.2.2.2 (43 + vr 851 (34 * t + j)) (by omega) (by omega)
  have sC : ∀ n l, MX_ l n → ∃ r, fX10_needOfOrder_112 (207 + 75 * t + 2 * i) (207 + 75 * t + 2 * j) (vr 854 (34 * t + j)) n vc = some (r, vc) ∧ MX_ (((0 ≤ vr 854 (34 * t + i) ∧ vr 854 (34 * t + i) = vr 854 (34 * t + j)), (if 1 ≤ lat_ g vr (34 * t + i) - lat_ g vr (34 * t + j) + 1 then lat_ g vr (34 * t + i) - lat_ g vr (34 * t + j) + 1 else 1)) :: l) r := fun n l h => by
    unfold fX10_needOfOrder_112
    by_cases c : vr 854 (34 * t + j) < 0
    · rw [if_pos c]
      exact ⟨n, rfl, MX_n h fun q => by omega⟩
    · rw [if_neg c, i4]
      by_cases d : vr 854 (34 * t + i) = vr 854 (34 * t + j)
      · rw [if_pos d, hli, hlj, lt_d]
        have e1 : wr_ (wr_ (lat_ g vr (34 * t + i) - lat_ g vr (34 * t + j)) + 1) = lat_ g vr (34 * t + i) - lat_ g vr (34 * t + j) + 1 := by
          unfold lat_
          rw [wr_id (show -2147483648 ≤ g 11 (43 + vr 851 (34 * t + i)) - g 11 (43 + vr 851 (34 * t + j)) ∧ g 11 (43 + vr 851 (34 * t + i)) - g 11 (43 + vr 851 (34 * t + j)) < 2147483648 by omega), wr_id (by omega)]
        rw [e1, mx_e, mx_e]
        exact ⟨_, rfl, MX_y h ⟨by omega, d⟩⟩
      · rw [if_neg d]
        exact ⟨n, rfl, MX_n h fun q => d q.2⟩
  have sD : ∀ n l, MX_ l n → ∃ r, fX10_needOfOrder_85 (207 + 75 * t + 2 * i) (207 + 75 * t + 2 * j) (vr 854 (34 * t + j)) n vc = some (r, vc) ∧ MX_ (((0 ≤ vr 854 (34 * t + i) ∧ vr 854 (34 * t + i) = vr 854 (34 * t + j)), (if 1 ≤ lat_ g vr (34 * t + i) - lat_ g vr (34 * t + j) + 1 then lat_ g vr (34 * t + i) - lat_ g vr (34 * t + j) + 1 else 1)) :: ((sto_ vr (34 * t + i) ∧ loa_ vr (34 * t + j)), lat_ g vr (34 * t + i)) :: l) r := fun n l h => by
    unfold fX10_needOfOrder_85
    rw [does_e 5 his, bd_s]
    try dsimp only
    by_cases c : sto_ vr (34 * t + i)
    · rw [if_pos c, if_neg n10_, does_e 4 hld, bd_s]
      try dsimp only
      by_cases d : loa_ vr (34 * t + j)
      · rw [if_pos d, if_neg n10_, hli, lt_d, mx_e]
        exact sC _ _ (MX_y h ⟨c, d⟩)
      · rw [if_neg d, if_pos rfl]
        exact sC _ _ (MX_n h fun q => d q.2)
    · rw [if_neg c, if_pos rfl]
      exact sC _ _ (MX_n h fun q => c q.1)
  have sFG : ∀ n l, MX_ l n → n ≤ 0 → ∃ r, fX10_needOfOrder_50 (207 + 75 * t + 2 * i) (207 + 75 * t + 2 * j) p (vr 854 (34 * t + j)) n vc = some (r, vc) ∧ MX_ (((0 ≤ vr 854 (34 * t + i) ∧ vr 854 (34 * t + i) = vr 854 (34 * t + j)), (if 1 ≤ lat_ g vr (34 * t + i) - lat_ g vr (34 * t + j) + 1 then lat_ g vr (34 * t + i) - lat_ g vr (34 * t + j) + 1 else 1)) :: ((sto_ vr (34 * t + i) ∧ loa_ vr (34 * t + j)), lat_ g vr (34 * t + i)) :: (((sto_ vr (34 * t + i) ∧ sto_ vr (34 * t + j)) ∨ (vr 849 (34 * t + i) = 2 ∧ kep_ g L vr (34 * t + i) (34 * t + j))), 1) :: l) r := fun n l h h0 => by
    have yes : ((sto_ vr (34 * t + i) ∧ sto_ vr (34 * t + j)) ∨ (vr 849 (34 * t + i) = 2 ∧ kep_ g L vr (34 * t + i) (34 * t + j))) → MX_ ((((sto_ vr (34 * t + i) ∧ sto_ vr (34 * t + j)) ∨ (vr 849 (34 * t + i) = 2 ∧ kep_ g L vr (34 * t + i) (34 * t + j))), 1) :: l) 1 := fun hp => by
      have := MX_y (x := 1) h hp
      rw [if_pos (by omega)] at this
      exact this
    unfold fX10_needOfOrder_50 fX10_needOfOrder_66 fX10_needOfOrder_82
    rw [does_e 5 his, bd_s]
    try dsimp only
    have rest : ¬ (sto_ vr (34 * t + i) ∧ sto_ vr (34 * t + j)) → ∃ r, (bd_ (fX1_isSplit (207 + 75 * t + 2 * i) vc) fun q6 => if q6.1 = 0 then fX10_needOfOrder_85 (207 + 75 * t + 2 * i) (207 + 75 * t + 2 * j) (vr 854 (34 * t + j)) n q6.2 else bd_ (fX10_waitsForSplit (207 + 75 * t + 2 * i) (207 + 75 * t + 2 * j) p q6.2) fun q17 => if q17.1 = 0 then fX10_needOfOrder_85 (207 + 75 * t + 2 * i) (207 + 75 * t + 2 * j) (vr 854 (34 * t + j)) n q17.2 else fX10_needOfOrder_85 (207 + 75 * t + 2 * i) (207 + 75 * t + 2 * j) (vr 854 (34 * t + j)) 1 q17.2) = some (r, vc) ∧ MX_ (((0 ≤ vr 854 (34 * t + i) ∧ vr 854 (34 * t + i) = vr 854 (34 * t + j)), (if 1 ≤ lat_ g vr (34 * t + i) - lat_ g vr (34 * t + j) + 1 then lat_ g vr (34 * t + i) - lat_ g vr (34 * t + j) + 1 else 1)) :: ((sto_ vr (34 * t + i) ∧ loa_ vr (34 * t + j)), lat_ g vr (34 * t + i)) :: (((sto_ vr (34 * t + i) ∧ sto_ vr (34 * t + j)) ∨ (vr 849 (34 * t + i) = 2 ∧ kep_ g L vr (34 * t + i) (34 * t + j))), 1) :: l) r := fun hno => by
      rw [splt_e hI, bd_s]
      try dsimp only
      by_cases c : vr 849 (34 * t + i) = 2
      · obtain ⟨r, e, o⟩ := waits_e hn hI hJ hL c
        rw [if_pos c, if_neg n10_, e, bd_s]
        try dsimp only
        rcases o with ⟨o, o2⟩ | ⟨o, o2⟩
        · rw [if_neg (by omega)]
          exact sD _ _ (yes (Or.inr ⟨c, o2⟩))
        · rw [if_pos o]
          exact sD _ _ (MX_n h fun q => q.elim hno fun q => o2 q.2)
      · rw [if_neg c, if_pos rfl]
        exact sD _ _ (MX_n h fun q => q.elim hno fun q => c q.1)
    by_cases c : sto_ vr (34 * t + i)
    · rw [if_pos c, if_neg n10_, does_e 5 hst, bd_s]
      try dsimp only
      by_cases d : sto_ vr (34 * t + j)
      · rw [if_pos d, if_neg n10_]
        exact sD _ _ (yes (Or.inl ⟨c, d⟩))
      · rw [if_neg d, if_pos rfl]
        exact rest fun q => d q.2
    · rw [if_neg c, if_pos rfl]
      exact rest fun q => c q.1
  have z0 : (vr 849 (34 * t + j) = 3 ∨ rd_ vr (34 * t + i) (vr 854 (34 * t + j)) ∨ (loa_ vr (34 * t + i) ∧ sto_ vr (34 * t + j))) → MX_ [((vr 849 (34 * t + j) = 3 ∨ rd_ vr (34 * t + i) (vr 854 (34 * t + j)) ∨ (loa_ vr (34 * t + i) ∧ sto_ vr (34 * t + j))), 0)] 0 := fun hp => MX_y MX_0 hp
  unfold fX10_needOfOrder fX10_needOfOrder_47
  rw [j4, lt_d]
  by_cases c1 : vr 849 (34 * t + j) = 3
  · rw [if_pos (j1.trans c1)]
    exact sFG _ _ (z0 (Or.inl c1)) (by decide)
  · rw [if_neg (by rw [j1]; exact c1), looks_e hI hs, bd_s]
    try dsimp only
    by_cases c2 : rd_ vr (34 * t + i) (vr 854 (34 * t + j))
    · rw [if_pos c2, if_neg n10_]
      exact sFG _ _ (z0 (Or.inr (Or.inl c2))) (by decide)
    · rw [if_neg c2, if_pos rfl, does_e 4 hil, bd_s]
      try dsimp only
      by_cases c3 : loa_ vr (34 * t + i)
      · rw [if_pos c3, if_neg n10_, does_e 5 hst, bd_s]
        try dsimp only
        by_cases c4 : sto_ vr (34 * t + j)
        · rw [if_pos c4, if_neg n10_]
          exact sFG _ _ (z0 (Or.inr (Or.inr ⟨c3, c4⟩))) (by decide)
        · rw [if_neg c4, if_pos rfl]
          exact sFG _ _ (MX_n MX_0 (by rintro (q | q | q); exact c1 q; exact c2 q; exact c4 q.2)) (by decide)
      · rw [if_neg c3, if_pos rfl]
        exact sFG _ _ (MX_n MX_0 (by rintro (q | q | q); exact c1 q; exact c2 q; exact c3 q.1)) (by decide)
end CNEED
