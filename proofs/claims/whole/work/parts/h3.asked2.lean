/-! layer 2: slow, fast, left, agrees, in both -/
theorem slow_Q {g vc vr : V_} {p : Int} (h : CX_ g p vc vr) (x : Int) : ∃ r vc' vr', fX11_slow 1 x vc = some (r, vc') ∧ fX12_slow 814 x vr = some (r, vr') ∧ QX_ g p vc vr vc' vr' := by
  have h' := h
  obtain ⟨hw, hg, hC, hp, hF, hD, hr, hA⟩ := h'
  unfold fX11_slow fX12_slow
  obtain ⟨r, e, f⟩ := in_e x 0 2 vr
  rw [e, bd_s]
  try dsimp only
  rcases f with ⟨rfl, f⟩ | ⟨rfl, f⟩
  · rw [if_neg n10_, copies_e, bd_s]
    try dsimp only
    obtain ⟨vc1, e1, ⟨-, -, C1, -, -, -, r1, A1⟩, e3, e4⟩ := slow_X h
    obtain ⟨how, w, s1, ⟨s2, -, s3, s4, -⟩, s5⟩ := e3 _ hD (fun k k0 k1 => by
      have e : cp_ vr 837 0 838 0 47 838 k = vr 837 k := by
        rw [cp_i ⟨rfl, k0, by omega⟩]
        congr 1
        omega
      rw [e]
      exact (r1 k k0 k1).1.symm)
    obtain ⟨b1, b2⟩ := behind_s hw C1 hD A1 s5
    rw [s1, bd_s, e1]
    try dsimp only
    have q : ∀ y z : Int, y = z → ∃ r vc' vr', (some (y, vc1) : Option (Int × V_)) = some (r, vc') ∧ (some (z, w) : Option (Int × V_)) = some (r, vr') ∧ QX_ g p vc vr vc' vr' := fun y z c => ⟨z, vc1, w, by rw [c], rfl, b1, e4, b2⟩
    rcases (by omega : x = 0 ∨ x = 1 ∨ x = 2) with c | c | c
    · rw [if_pos c, if_pos c, bd_s]
      exact q _ _ s2
    · rw [if_neg (show ¬ x = 0 by omega), if_neg (show ¬ x = 0 by omega), if_pos c, if_pos c, bd_s]
      exact q _ _ s3
    · rw [if_neg (show ¬ x = 0 by omega), if_neg (show ¬ x = 0 by omega), if_neg (show ¬ x = 1 by omega), if_neg (show ¬ x = 1 by omega), if_pos c, bd_s]
      exact q _ _ s4
  · rw [if_pos rfl, if_neg (show ¬ x = 0 by omega), if_neg (show ¬ x = 1 by omega), if_neg (show ¬ x = 2 by omega)]
    exact ⟨_, vc, vr, rfl, rfl, hA, Q1_r, Q2_r⟩
theorem fast_Q {g vc vr : V_} {p : Int} (h : CX_ g p vc vr) (x : Int) : ∃ r vc' vr', fX11_fast 1 x vc = some (r, vc') ∧ fX12_fast 814 x vr = some (r, vr') ∧ QX_ g p vc vr vc' vr' := by
  have h' := h
  obtain ⟨hw, hg, hC, hp, hF, hD, hr, hA⟩ := h'
  unfold fX11_fast fX12_fast
  obtain ⟨r, e, f⟩ := in_e x 0 4 vr
  rw [e, bd_s]
  try dsimp only
  rcases f with ⟨rfl, f⟩ | ⟨rfl, f⟩
  · obtain ⟨vc2, vr1, e1, ⟨z, e2⟩, e3, e4, e5, e6, C2, ⟨A2, F1, F2⟩, -⟩ := fast_X h
    rw [if_neg n10_, e2, bd_s]
    try dsimp only
    obtain ⟨how, w, s1, ⟨s2, -, ⟨s3, s4, s5, s6⟩, -⟩, s7⟩ := e6 vr1 e4 e3 e5
    obtain ⟨b1, b2⟩ := behind_f hw C2 e4 A2 s7
    rw [s1, bd_s, e1]
    try dsimp only
    have q : ∀ y z : Int, y = z → ∃ r vc' vr', (some (y, vc2) : Option (Int × V_)) = some (r, vc') ∧ (some (z, w) : Option (Int × V_)) = some (r, vr') ∧ QX_ g p vc vr vc' vr' := fun y z c => ⟨z, vc2, w, by rw [c], rfl, b1, F1, Q2_tr F2 b2⟩
    rcases (by omega : x = 0 ∨ x = 1 ∨ x = 2 ∨ x = 3 ∨ x = 4) with c | c | c | c | c
    · rw [if_pos c, if_pos c, bd_s]
      exact q _ _ s2
    · rw [if_neg (show ¬ x = 0 by omega), if_neg (show ¬ x = 0 by omega), if_pos c, if_pos c, bd_s]
      exact q _ _ s3
    · rw [if_neg (show ¬ x = 0 by omega), if_neg (show ¬ x = 0 by omega), if_neg (show ¬ x = 1 by omega), if_neg (show ¬ x = 1 by omega), if_pos c, if_pos c, bd_s]
      exact q _ _ s4
    · rw [if_neg (show ¬ x = 0 by omega), if_neg (show ¬ x = 0 by omega), if_neg (show ¬ x = 1 by omega), if_neg (show ¬ x = 1 by omega), if_neg (show ¬ x = 2 by omega), if_neg (show ¬ x = 2 by omega), if_pos c, if_pos c, bd_s]
      exact q _ _ s5
    · rw [if_neg (show ¬ x = 0 by omega), if_neg (show ¬ x = 0 by omega), if_neg (show ¬ x = 1 by omega), if_neg (show ¬ x = 1 by omega), if_neg (show ¬ x = 2 by omega), if_neg (show ¬ x = 2 by omega), if_neg (show ¬ x = 3 by omega), if_neg (show ¬ x = 3 by omega), if_pos c, bd_s]
      exact q _ _ s6
  · rw [if_pos rfl, if_neg (show ¬ x = 0 by omega), if_neg (show ¬ x = 1 by omega), if_neg (show ¬ x = 2 by omega), if_neg (show ¬ x = 3 by omega), if_neg (show ¬ x = 4 by omega)]
    exact ⟨_, vc, vr, rfl, rfl, hA, Q1_r, Q2_r⟩
theorem left_Q {g vc vr : V_} {p : Int} (h : CX_ g p vc vr) (x : Int) (hx : iR_ x) : ∃ r vc' vr', fX11_left 1 x vc = some (r, vc') ∧ fX12_left 814 x vr = some (r, vr') ∧ QX_ g p vc vr vc' vr' := by
  have h' := h
  obtain ⟨hw, hg, hC, hp, hF, hD, hr, hA⟩ := h'
  unfold iR_ at hx
  unfold fX11_left fX12_left fX11_isRegister
  obtain ⟨vc2, vr1, e1, ⟨z, e2⟩, e3, e4, e5, e6, C2, ⟨A2, F1, F2⟩, -⟩ := fast_X h
  obtain ⟨how, w, s1, ⟨s2, -, -, s6⟩, s7⟩ := e6 vr1 e4 e3 e5
  obtain ⟨b1, b2⟩ := behind_f hw C2 e4 A2 s7
  rw [e1, bd_s, e2, bd_s]
  try dsimp only
  rw [s1, bd_s]
  try dsimp only
  have q : ∀ y z : Int, y = z → ∃ r vc' vr', (some (y, vc2) : Option (Int × V_)) = some (r, vc') ∧ (some (z, w) : Option (Int × V_)) = some (r, vr') ∧ QX_ g p vc vr vc' vr' := fun y z c => ⟨z, vc2, w, by rw [c], rfl, b1, F1, Q2_tr F2 b2⟩
  by_cases c : how = 0
  · rw [if_pos (s2.trans c), if_pos c]
    have rc := s6 c
    obtain ⟨i1, j1, k1⟩ := in_e x 0 5 w
    rw [j1, bd_s]
    try dsimp only
    rcases k1 with ⟨rfl, k1⟩ | ⟨rfl, k1⟩
    · rw [if_neg (show ¬ x < 0 by omega), if_neg (show ¬ 6 ≤ x by omega), bd_s, if_neg n10_, if_neg n10_, ck_t (by omega), ck_t (by omega)]
      exact q _ _ (rc.1 x (by omega) (by omega)).1
    · obtain ⟨i2, j2, k2⟩ := in_e x 8 15 w
      rw [if_pos rfl, j2, bd_s]
      try dsimp only
      rcases k2 with ⟨rfl, k2⟩ | ⟨rfl, k2⟩
      · rw [if_neg (show ¬ x < 0 by omega), if_pos (show 6 ≤ x by omega), bd_s, if_pos rfl, if_neg (show ¬ x < 8 by omega), if_neg (show ¬ 16 ≤ x by omega), if_neg n10_, wr_id (by omega), ck_t (by omega), ck_t (by omega)]
        exact q _ _ (rc.2 (x - 8) (by omega) (by omega)).1
      · rw [if_pos rfl]
        by_cases d : x < 0
        · rw [if_pos d, bd_s, if_pos rfl, if_pos (show x < 8 by omega)]
          exact q _ _ rfl
        · rw [if_neg d, if_pos (show 6 ≤ x by omega), bd_s, if_pos rfl]
          by_cases d8 : x < 8
          · rw [if_pos d8]
            exact q _ _ rfl
          · rw [if_neg d8, if_pos (show 16 ≤ x by omega)]
            exact q _ _ rfl
  · rw [if_neg (show ¬ vc2 807 4 = 0 by omega), if_neg c]
    exact q _ _ rfl
