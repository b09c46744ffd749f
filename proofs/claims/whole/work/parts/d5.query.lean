/-! layer 2: what is asked of a plan, in both -/
def HP_ (g : V_) (p : Int) (vc0 vr0 vc vr : V_) : Prop := fX11_knownPlan 1 vc0 = some (189, vc) ∧ (∃ z, fX12_plansAll 814 vr0 = some (z, vr)) ∧ PL_ g p vc vr ∧ WF_ g ∧ RG_ g ∧ C_ vc p g ∧ vc 1 4 = p ∧ D_ vr g
theorem in_e (x a b : Int) (v : V_) : ∃ r, fX12_in x a b v = some (r, v) ∧ ((r = 1 ∧ a ≤ x ∧ x ≤ b) ∨ (r = 0 ∧ ¬ (a ≤ x ∧ x ≤ b))) := by
  unfold fX12_in
  by_cases c : x < a
  · rw [if_pos c]; exact ⟨0, rfl, Or.inr ⟨rfl, by omega⟩⟩
  · rw [if_neg c]
    by_cases c2 : b < x
    · rw [if_pos c2]; exact ⟨0, rfl, Or.inr ⟨rfl, by omega⟩⟩
    · rw [if_neg c2]; exact ⟨1, rfl, Or.inl ⟨rfl, by omega, by omega⟩⟩
theorem tr_T {g vc vr : V_} {p : Int} (h : PL_ g p vc vr) (x : Int) : ∃ h, fX4_traceAt 189 x vc = some (h, vc) ∧ ((0 ≤ x ∧ x < vr 814 52 ∧ x < 8 ∧ h = 200 + 75 * x ∧ fX12_isTrace 814 x vr = some (1, vr)) ∨ (h = 0 ∧ fX12_isTrace 814 x vr = some (0, vr))) := by
  obtain ⟨⟨t1, t2, -⟩, -⟩ := h
  obtain ⟨r, e, f⟩ := in_e x 0 (wr_ (vr 814 52 - 1)) vr
  have hx : wr_ (vr 814 52 - 1) = vr 814 52 - 1 := wr_id (by omega)
  rw [hx] at f
  unfold fX4_traceAt fX12_isTrace
  rw [e, bd_s]
  try dsimp only
  rcases f with ⟨rfl, f⟩ | ⟨rfl, f⟩
  · rw [if_neg (by omega), if_neg (show ¬ vc 189 0 ≤ x by omega), ck_t (by omega), ck_t (Or.inr rfl)]
    exact ⟨_, rfl, Or.inl ⟨by omega, by omega, by omega, by omega, rfl⟩⟩
  · rw [ck_t (Or.inl rfl)]
    by_cases c : x < 0
    · rw [if_pos c]
      exact ⟨_, rfl, Or.inr ⟨rfl, rfl⟩⟩
    · rw [if_neg c, if_pos (show vc 189 0 ≤ x by omega)]
      exact ⟨_, rfl, Or.inr ⟨rfl, rfl⟩⟩
theorem itm_T {g vc vr : V_} {L : Int → Int} {t m : Int} (ht : 0 ≤ t ∧ t < 8) (h : PT_ g L t m vc vr) (hi : fX12_isTrace 814 t vr = some (1, vr)) (y : Int) : (0 ≤ y ∧ y < m ∧ fX11_itemOf (200 + 75 * t) y vc = some (207 + 75 * t + 2 * y, vc) ∧ fX12_isItem 814 t y vr = some (1, vr)) ∨ (fX11_itemOf (200 + 75 * t) y vc = some (0, vc) ∧ fX12_isItem 814 t y vr = some (0, vr)) := by
  obtain ⟨⟨⟨a1, a2, a3, a4⟩, a5⟩, -⟩ := h
  obtain ⟨r, e, f⟩ := in_e y 0 (m - 1) vr
  have hx : wr_ (vr 848 t - 1) = m - 1 := by rw [a2, wr_id (by omega)]
  unfold fX11_itemOf fX12_isItem
  rw [hi, bd_s, if_neg (show ¬ (1 : Int) = 0 from n10_), if_neg (show ¬ 200 + 75 * t = 0 by omega), ck_t ht]
  simp only [Int.reduceAdd]
  rw [hx, e, bd_s]
  try dsimp only
  rcases f with ⟨rfl, f⟩ | ⟨rfl, f⟩
  · rw [if_neg (by omega), if_pos (show y < vc (200 + 75 * t) 3 by omega), ck_t (by omega), if_neg n10_]
    exact Or.inl ⟨by omega, by omega, by rw [show 200 + 75 * t + 2 + (5 + 2 * y) = 207 + 75 * t + 2 * y by omega], rfl⟩
  · rw [if_pos (show (0 : Int) = 0 from rfl)]
    by_cases c : y < 0
    · rw [if_pos c]; exact Or.inr ⟨rfl, rfl⟩
    · rw [if_neg c, if_neg (show ¬ y < vc (200 + 75 * t) 3 by omega)]; exact Or.inr ⟨rfl, rfl⟩
theorem noi_c (y : Int) (vc : V_) : fX11_itemOf 0 y vc = some (0, vc) := by
  unfold fX11_itemOf
  rw [if_pos rfl]
theorem noi_r {t : Int} {vr : V_} (h : fX12_isTrace 814 t vr = some (0, vr)) (y : Int) : fX12_isItem 814 t y vr = some (0, vr) := by
  unfold fX12_isItem
  rw [h, bd_s, if_pos rfl]
section QRY
variable {g vc0 vr0 vc vr : V_} {p : Int}
theorem traces_Q (h : HP_ g p vc0 vr0 vc vr) : ∃ r, fX11_traces 1 vc0 = some (r, vc) ∧ fX12_traces 814 vr0 = some (r, vr) := by
  obtain ⟨e1, ⟨z, e2⟩, hP, -⟩ := h
  unfold fX11_traces fX12_traces
  rw [e1, bd_s, e2, bd_s]
  try dsimp only
  rw [hP.1.1]
  exact ⟨_, rfl, rfl⟩
theorem trace_Q (h : HP_ g p vc0 vr0 vc vr) (x y : Int) : ∃ r, fX11_trace 1 x y vc0 = some (r, vc) ∧ fX12_trace 814 x y vr0 = some (r, vr) := by
  obtain ⟨e1, ⟨z, e2⟩, hP, hw, hg, hC, h4, hD⟩ := h
  unfold fX11_trace fX12_trace
  rw [e1, bd_s, e2, bd_s]
  try dsimp only
  obtain ⟨t, f1, f2⟩ := tr_T hP x
  rw [f1, bd_s]
  try dsimp only
  rcases f2 with ⟨x0, x1, x2, x3, f2⟩ | ⟨x3, f2⟩
  · obtain ⟨L, -, -, hT⟩ := hP.2.1
    obtain ⟨m, hm⟩ := hT x x0 x1
    obtain ⟨b1, b2, b3, b4, b5, b6, b7⟩ := trc_e hg hD ⟨x0, x2⟩ hm
    have k1 : vc (200 + 75 * x) 1 = vr 847 x := (hP.1.2.2.2.1 x x0 x1).2.1
    have k2 : vc (200 + 75 * x) 3 = vr 848 x := hm.1.1.1.trans hm.1.1.2.1.symm
    have k3 : vc (200 + 75 * x) 5 = vr 860 x := hm.1.2.1
    rw [f2, bd_s, if_neg (show ¬ t = 0 by omega), if_neg n10_]
    simp only [Int.reduceAdd]
    rw [ck_t ⟨x0, x2⟩, ck_t ⟨x0, x2⟩, ck_t ⟨x0, x2⟩, b5, b7, b6, b1, b2, b3, b4, x3, k1, k2, k3, bd_s, bd_s, bd_s, bd_s, bd_s, bd_s, bd_s]
    try dsimp only
    by_cases q : y = 0
    · rw [if_pos q, if_pos q]; exact ⟨_, rfl, rfl⟩
    rw [if_neg q, if_neg q]
    by_cases q : y = 1
    · rw [if_pos q, if_pos q]; exact ⟨_, rfl, rfl⟩
    rw [if_neg q, if_neg q]
    by_cases q : y = 2
    · rw [if_pos q, if_pos q]; exact ⟨_, rfl, rfl⟩
    rw [if_neg q, if_neg q]
    by_cases q : y = 3
    · rw [if_pos q, if_pos q]; exact ⟨_, rfl, rfl⟩
    rw [if_neg q, if_neg q]
    by_cases q : y = 4
    · rw [if_pos q, if_pos q]; exact ⟨_, rfl, rfl⟩
    rw [if_neg q, if_neg q]
    by_cases q : y = 5
    · rw [if_pos q, if_pos q]; exact ⟨_, rfl, rfl⟩
    rw [if_neg q, if_neg q]
    by_cases q : y = 6
    · rw [if_pos q, if_pos q]; exact ⟨_, rfl, rfl⟩
    rw [if_neg q, if_neg q]
    by_cases q : y = 7
    · rw [if_pos q, if_pos q]; exact ⟨_, rfl, rfl⟩
    rw [if_neg q, if_neg q]
    by_cases q : y = 8
    · rw [if_pos q, if_pos q]; exact ⟨_, rfl, rfl⟩
    rw [if_neg q, if_neg q]
    by_cases q : y = 9
    · rw [if_pos q, if_pos q]; exact ⟨_, rfl, rfl⟩
    rw [if_neg q, if_neg q]
    exact ⟨_, rfl, rfl⟩
  · rw [f2, bd_s, if_pos x3, if_pos rfl]
    exact ⟨_, rfl, rfl⟩
theorem member_Q (h : HP_ g p vc0 vr0 vc vr) (x y : Int) : ∃ r, fX11_member 1 x y vc0 = some (r, vc) ∧ fX12_member 814 x y vr0 = some (r, vr) := by
  obtain ⟨e1, ⟨z, e2⟩, hP, hw, hg, hC, h4, hD⟩ := h
  unfold fX11_member fX12_member
  rw [e1, bd_s, e2, bd_s]
  try dsimp only
  obtain ⟨t, f1, f2⟩ := tr_T hP x
  rw [f1, bd_s]
  try dsimp only
  rcases f2 with ⟨x0, x1, x2, x3, f2⟩ | ⟨x3, f2⟩
  · obtain ⟨k0, k1, k2⟩ := hP.1.2.2.2.1 x x0 x1
    rw [f2, bd_s, if_neg (show ¬ t = 0 by omega), if_neg n10_, ck_t (show 0 ≤ x ∧ x < 8 from ⟨x0, x2⟩)]
    simp only [Int.reduceAdd]
    obtain ⟨r, e, f⟩ := in_e y 0 (wr_ (vr 847 x - 1)) vr
    rw [wr_id (show -2147483648 ≤ vr 847 x - 1 ∧ vr 847 x - 1 < 2147483648 by omega)] at e f
    rw [wr_id (show -2147483648 ≤ vr 847 x - 1 ∧ vr 847 x - 1 < 2147483648 by omega), e, bd_s]
    try dsimp only
    rcases f with ⟨rfl, f⟩ | ⟨rfl, f⟩
    · have hj : wr_ (wr_ (4 * x) + y) = 4 * x + y := by rw [wr_id (show -2147483648 ≤ 4 * x ∧ 4 * x < 2147483648 by omega), wr_id (by omega)]
      rw [if_neg (by omega), if_pos (show y < vc t 1 by rw [x3]; omega), ck_t (by omega), if_neg n10_, hj, ck_t (by omega), x3, show 200 + 75 * x + 1 = 201 + 75 * x by omega, (k2 y f.1 (by omega)).1]
      exact ⟨_, rfl, rfl⟩
    · rw [if_pos (show (0 : Int) = 0 from rfl)]
      by_cases c : y < 0
      · rw [if_pos c]; exact ⟨_, rfl, rfl⟩
      · rw [if_neg c, if_neg (show ¬ y < vc t 1 by rw [x3]; omega)]; exact ⟨_, rfl, rfl⟩
  · rw [f2, bd_s, if_pos x3, if_pos rfl]
    exact ⟨_, rfl, rfl⟩
theorem item_Q (h : HP_ g p vc0 vr0 vc vr) (x y k : Int) : ∃ r, fX11_item 1 x y k vc0 = some (r, vc) ∧ fX12_item 814 x y k vr0 = some (r, vr) := by
  obtain ⟨e1, ⟨z, e2⟩, hP, hw, hg, hC, h4, hD⟩ := h
  have hn := hw.1
  unfold fX11_item fX12_item
  rw [e1, bd_s, e2, bd_s]
  try dsimp only
  obtain ⟨t, f1, f2⟩ := tr_T hP x
  rw [f1, bd_s]
  try dsimp only
  rcases f2 with ⟨x0, x1, x2, x3, f2⟩ | ⟨x3, f2⟩
  · obtain ⟨L, -, -, hT⟩ := hP.2.1
    obtain ⟨m, hm⟩ := hT x x0 x1
    have m34 := hm.1.1.2.2.2
    rcases itm_T ⟨x0, x2⟩ hm f2 y with ⟨y0, y1, i1, i2⟩ | ⟨i1, i2⟩
    · have hE := (hm.2.1 y y0 y1).1
      have k3 := (IE_kind hE).1
      have hx : wr_ (wr_ (34 * x) + y) = 34 * x + y := ix_ ⟨x0, x2⟩ ⟨y0, by omega⟩
      rw [x3, i1, bd_s, i2, bd_s, if_neg (show ¬ 207 + 75 * x + 2 * y = 0 by omega), if_neg n10_, lt_d, hx]
      simp only [Int.reduceAdd]
      by_cases q : k = 0
      · rw [if_pos q, if_pos q, ck_t (by omega), hE.1]; exact ⟨_, rfl, rfl⟩
      rw [if_neg q, if_neg q]
      by_cases q : k = 1
      · rw [if_pos q, if_pos q, ck_t (by omega), (hm.2.2.2.2.2.2.1.1 y y0 y1).1]; exact ⟨_, rfl, rfl⟩
      rw [if_neg q, if_neg q]
      by_cases q : k = 2
      · rw [if_pos q, if_pos q, ck_t (by omega), hE.2.1]; exact ⟨_, rfl, rfl⟩
      rw [if_neg q, if_neg q]
      by_cases q : k = 3
      · rw [if_pos q, if_pos q, ck_t (by omega), k3, bd_s]; exact ⟨_, rfl, rfl⟩
      rw [if_neg q, if_neg q]
      by_cases q : k = 4
      · rw [if_pos q, if_pos q, ck_t (by omega), (hm.2.2.2.2.1.1 y y0 y1).1]; exact ⟨_, rfl, rfl⟩
      rw [if_neg q, if_neg q]
      by_cases q : k = 5
      · rw [if_pos q, if_pos q, ck_t (by omega), hE.2.2.2.1]; exact ⟨_, rfl, rfl⟩
      rw [if_neg q, if_neg q]
      have b9 := hm.2.2.2.2.2.2.2.2.1.1 y y0 y1
      by_cases q : k = 6
      · obtain ⟨r, g1, g2⟩ := guess_e (v := vr) (t := x) (j := y) ⟨x0, x2⟩ ⟨y0, by omega⟩
        rw [if_pos q, if_pos q, g1, bd_s]
        try dsimp only
        rcases b9.1 with ⟨u, w⟩ | ⟨u, w⟩
        · rcases g2 with ⟨u2, w2⟩ | ⟨u2, w2⟩
          · rw [if_neg (show ¬ vc (207 + 75 * x + 2 * y) 10 = 0 by omega), if_neg (show ¬ r = 0 by omega)]; exact ⟨_, rfl, rfl⟩
          · exact absurd w w2
        · rcases g2 with ⟨u2, w2⟩ | ⟨u2, w2⟩
          · exact absurd w2 w
          · rw [if_pos u, if_pos u2]; exact ⟨_, rfl, rfl⟩
      rw [if_neg q, if_neg q]
      by_cases q : k = 7
      · rw [if_pos q, if_pos q, copied_e ⟨x0, x2⟩ ⟨y0, by omega⟩, bd_s, b9.2]; exact ⟨_, rfl, rfl⟩
      rw [if_neg q, if_neg q]
      by_cases q : k = 8
      · rw [if_pos q, if_pos q, ck_t (by omega)]
        have h5 := hE.2.2.2.2.2.2.2.2
        have b0 := hE.2.2.1
        by_cases c : vr 849 (34 * x + y) = 2
        · rw [if_pos c, ck_t (by omega), ck_t (by omega)]
          rcases h5 with ⟨w, -⟩ | ⟨w, -⟩ | ⟨w, w2⟩ | ⟨w, -⟩
          · omega
          · omega
          · obtain ⟨-, -, -, -, -, w6, w7, -⟩ := w2
            rw [wayTo_e hD (by omega) w6, bd_s, w7]; exact ⟨_, rfl, rfl⟩
          · omega
        · rw [if_neg c]
          have : vc (207 + 75 * x + 2 * y) 5 = -2 := by
            rcases h5 with ⟨-, -, -, -, w⟩ | ⟨-, -, -, -, -, -, -, w⟩ | ⟨w, -⟩ | ⟨-, -, -, -, -, w, -⟩
            · exact w
            · exact w
            · exact absurd w c
            · exact w
          rw [this]; exact ⟨_, rfl, rfl⟩
      rw [if_neg q, if_neg q]
      exact ⟨_, rfl, rfl⟩
    · rw [x3, i1, bd_s, i2, bd_s, if_pos rfl, if_pos rfl]
      exact ⟨_, rfl, rfl⟩
  · rw [x3, noi_c, bd_s, noi_r f2, bd_s, if_pos rfl, if_pos rfl]
    exact ⟨_, rfl, rfl⟩
end QRY
