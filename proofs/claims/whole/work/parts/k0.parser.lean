/-! layer 2: the parser's state, in both -/
/-- half i of the reference's arrays of a program -/
def hf_ (i a k : Int) : Prop := (a = 823 ∧ k = i) ∨ ((a = 824 ∨ a = 825) ∧ 4 * i ≤ k ∧ k < 4 * i + 4) ∨ ((a = 826 ∨ (832 ≤ a ∧ a ≤ 834)) ∧ 8 * i ≤ k ∧ k < 8 * i + 8) ∨ (827 ≤ a ∧ a ≤ 831 ∧ 48 * i ≤ k ∧ k < 48 * i + 48) ∨ (a = 835 ∧ 16 * i ≤ k ∧ k < 16 * i + 16)
/-- what a parser writes -/
def Fv_ (p : Int) (v0 v : V_) : Prop := ∀ a k, ¬ (a = 3 ∧ 5 ≤ k ∧ k ≤ 9) → ¬ (9 ≤ a ∧ a ≤ 11) → ¬ (p ≤ a ∧ a < p + 64) → v a k = v0 a k
def Fw_ (i : Int) (w0 w : V_) : Prop := ∀ a k, ¬ (a = 814 ∧ (k = 11 ∨ (13 ≤ k ∧ k ≤ 17) ∨ k = 20)) → a ≠ 822 → a ≠ 836 → ¬ hf_ i a k → w a k = w0 a k
def GD_ (p : Int) (v : V_) : Prop := (0 ≤ v p 0 ∧ v p 0 ≤ 8) ∧ ∀ b, 0 ≤ b → b < v p 0 → 0 ≤ v (p + 1) b ∧ v (p + 1) b ≤ 6
/-- the fault that counts if the text is well formed -/
def LT_ (M : Int) (v0 w0 v w : V_) : Prop := (v 3 8 = 0 ∧ w 814 15 = 0 ∧ v 3 9 = -1) ∨ (v 3 8 = w 814 15 ∧ v 3 9 = w 814 16 ∧ (3 ≤ v 3 8 ∧ v 3 8 ≤ 5) ∧ ∃ T, 0 ≤ T ∧ T < v 3 5 ∧ T < M ∧ v 3 9 = w0 818 T ∧ (v 3 8 = 5 → v0 6 T = 18))
def EV_ (M p i : Int) (v0 w0 : V_) : Prop := TF_ M v0 w0 ∧ (p = 12 ∨ p = 76) ∧ (i = 0 ∨ i = 1) ∧ v0 3 4 = p ∧ w0 814 19 = i
def J_ (M p i : Int) (v0 w0 v w : V_) : Prop := Fv_ p v0 v ∧ Fw_ i w0 w ∧ GD_ p v ∧ (0 ≤ v 3 5 ∧ v 3 5 < M) ∧ w 814 11 = v 3 5 ∧ v 3 6 = w 814 13 ∧ 0 ≤ v 3 6 ∧ (v 3 6 ≠ 0 → w 814 14 = w0 818 (v 3 5)) ∧ (v 3 6 = 0 → LT_ M v0 w0 v w) ∧ v0 3 5 ≤ v 3 5
def Ec_ (v v' : V_) : Prop := ∀ a k, ¬ (a = 3 ∧ (k = 5 ∨ k = 6)) → v' a k = v a k
def Er_ (w w' : V_) : Prop := ∀ a k, ¬ (a = 814 ∧ (k = 11 ∨ k = 13 ∨ k = 14)) → w' a k = w a k
theorem Ec_r {v : V_} : Ec_ v v := fun _ _ _ => rfl
theorem Er_r {v : V_} : Er_ v v := fun _ _ _ => rfl
theorem Ec_tr {u v w : V_} (h : Ec_ u v) (h2 : Ec_ v w) : Ec_ u w := fun a k q => (h2 a k q).trans (h a k q)
theorem Er_tr {u v w : V_} (h : Er_ u v) (h2 : Er_ v w) : Er_ u w := fun a k q => (h2 a k q).trans (h a k q)
theorem TS_f {s t s' t' : Int} (h : TkS_ s t) (h' : TkS_ s' t') : s = s' ↔ t = t' := by
  unfold TkS_ at h h'
  omega
section PARSE
variable {M p i : Int} {v0 w0 v w v' w' : V_} {s t b c : Int}
theorem J_tok (e : EV_ M p i v0 w0) (h : J_ M p i v0 w0 v w) : v 4 4 = M ∧ (∀ a k, 4 ≤ a → a ≤ 8 → v a k = v0 a k) ∧ (∀ a k, 815 ≤ a → a ≤ 821 → w a k = w0 a k) ∧ v 3 4 = p ∧ w 814 19 = i := by
  obtain ⟨⟨m1, m2, -⟩, ep, ei, e1, e2⟩ := e
  obtain ⟨f1, f2, -⟩ := h
  refine ⟨?_, fun a k q q2 => f1 a k (by omega) (by omega) (by omega), fun a k q q2 => f2 a k (by omega) (by omega) (by omega) (by unfold hf_; omega), ?_, ?_⟩
  · rw [f1 _ _ (by omega) (by omega) (by omega)]; exact m2
  · rw [f1 _ _ (by omega) (by omega) (by omega)]; exact e1
  · rw [f2 _ _ (by omega) (by omega) (by omega) (by unfold hf_; omega)]; exact e2
theorem sortAt_e (e : EV_ M p i v0 w0) (h : J_ M p i v0 w0 v w) : fX9_sortAt 4 (v 3 5) v = some (v0 6 (v 3 5), v) := by
  obtain ⟨a, b, -⟩ := J_tok e h
  have h4 := h.2.2.2.1
  have := e.1.1
  unfold fX9_sortAt
  rw [if_neg (by omega), if_neg (by omega), ck_t (by omega), show (4 : Int) + 2 = 6 from rfl, b _ _ (by decide) (by decide)]
theorem placeAt_e (e : EV_ M p i v0 w0) (h : J_ M p i v0 w0 v w) : fX9_placeAt 4 (v 3 5) v = some (w0 818 (v 3 5), v) := by
  obtain ⟨a, b, -⟩ := J_tok e h
  have h4 := h.2.2.2.1
  have := e.1.1
  unfold fX9_placeAt
  rw [if_neg (by omega), if_neg (by omega), ck_t (by omega), show (4 : Int) + 3 = 7 from rfl, b _ _ (by decide) (by decide), (e.1.2.2.1 _ h4.1 h4.2).2.1]
theorem valueAt_e (e : EV_ M p i v0 w0) (h : J_ M p i v0 w0 v w) : fX9_valueAt 4 (v 3 5) v = some (v0 8 (v 3 5), v) := by
  obtain ⟨a, b, -⟩ := J_tok e h
  have h4 := h.2.2.2.1
  have := e.1.1
  unfold fX9_valueAt
  rw [if_neg (by omega), if_neg (by omega), ck_t (by omega), show (4 : Int) + 4 = 8 from rfl, b _ _ (by decide) (by decide)]
theorem sees_e (e : EV_ M p i v0 w0) (h : J_ M p i v0 w0 v w) : fX3_sees 3 s v = if v0 6 (v 3 5) = s then some (1, v) else some (0, v) := by
  unfold fX3_sees
  rw [show (3 : Int) + 1 = 4 from rfl, sortAt_e e h, bd_s]
theorem is_e (e : EV_ M p i v0 w0) (h : J_ M p i v0 w0 v w) (h0 : v 3 6 = 0) : fX12_is 814 t w = if w0 817 (v 3 5) = t then some (1, w) else some (0, w) := by
  obtain ⟨-, -, b, -⟩ := J_tok e h
  obtain ⟨-, -, -, h4, h5, h6, -⟩ := h
  have := e.1.1
  unfold fX12_is
  rw [if_pos (by omega), ck_t (by omega), h5, show (814 : Int) + 3 = 817 from rfl, b _ _ (by decide) (by decide)]
theorem is_F (h : w 814 13 ≠ 0) : fX12_is 814 t w = some (0, w) := by
  unfold fX12_is
  rw [if_neg h]
theorem J_ts (e : EV_ M p i v0 w0) (h : J_ M p i v0 w0 v w) : TkS_ (v0 6 (v 3 5)) (w0 817 (v 3 5)) := (e.1.2.2.1 _ h.2.2.2.1.1 h.2.2.2.1.2).1.1
theorem is_s (e : EV_ M p i v0 w0) (h : J_ M p i v0 w0 v w) (h0 : v 3 6 = 0) (ht : TkS_ s t) : fX12_is 814 t w = if v0 6 (v 3 5) = s then some (1, w) else some (0, w) := by
  rw [is_e e h h0]
  have := TS_f (J_ts e h) ht
  by_cases c : v0 6 (v 3 5) = s
  · rw [if_pos c, if_pos (this.mp c)]
  · rw [if_neg c, if_neg fun q => c (this.mpr q)]
/-- the token alone goes on, or a fault is told -/
theorem J_el (h : J_ M p i v0 w0 v w) (hp : p = 12 ∨ p = 76) (q1 : Ec_ v v') (q2 : Er_ w w') (a0 : v 3 5 ≤ v' 3 5 ∧ v' 3 5 < M) (a1 : w' 814 11 = v' 3 5) (a2 : v' 3 6 = w' 814 13) (a3 : 0 ≤ v' 3 6) (a4 : v' 3 6 ≠ 0 → w' 814 14 = w0 818 (v' 3 5)) (a5 : v' 3 6 = 0 → v 3 6 = 0) : J_ M p i v0 w0 v' w' := by
  obtain ⟨f1, f2, ⟨g1, g2⟩, h4, h5, h6, h7, h8, h9, h10⟩ := h
  refine ⟨fun a k r r2 r3 => (q1 a k (by omega)).trans (f1 a k r r2 r3), fun a k r r2 r3 r4 => (q2 a k (by omega)).trans (f2 a k r r2 r3 r4), ⟨?_, fun b b0 b1 => ?_⟩, by omega, a1, a2, a3, a4, fun z => ?_, by omega⟩
  · rw [q1 _ _ (by omega)]; exact g1
  · rw [q1 _ _ (by omega)] at b1 ⊢; exact g2 b b0 b1
  · rcases h9 (a5 z) with ⟨x, y, y9⟩ | ⟨x, y, x2, T, T0, T1, T2, T3, T4⟩
    · exact Or.inl ⟨by rw [q1 _ _ (by omega)]; exact x, by rw [q2 _ _ (by omega)]; exact y, by rw [q1 _ _ (by omega)]; exact y9⟩
    · refine Or.inr ⟨by rw [q1 _ _ (by omega), q2 _ _ (by omega)]; exact x, by rw [q1 _ _ (by omega), q2 _ _ (by omega)]; exact y, by rw [q1 _ _ (by omega)]; exact x2, T, T0, by omega, T2, by rw [q1 _ _ (by omega)]; exact T3, by rw [q1 _ _ (by omega)]; exact T4⟩
theorem fail_J (e : EV_ M p i v0 w0) (h : J_ M p i v0 w0 v w) (hc : 0 < c) : ∃ v' w', fX3_fail 3 c v = some (0, v') ∧ fX12_fail 814 c w = some (0, w') ∧ J_ M p i v0 w0 v' w' ∧ Ec_ v v' ∧ Er_ w w' ∧ v' 3 6 ≠ 0 := by
  have h' := h
  obtain ⟨t1, t2, t3, t4, t5⟩ := J_tok e h
  obtain ⟨f1, f2, g, h4, h5, h6, h7, h8, h9⟩ := h'
  have := e.1.1
  unfold fX3_fail fX12_fail
  by_cases z : v 3 6 = 0
  · rw [if_pos z, if_pos (by omega), lt_d, lt_d, up_n (by omega), ck_t (by omega), up_n (by omega), lt_d, h5, show (814 : Int) + 4 = 818 from rfl, t3 818 _ (by decide) (by decide)]
    have q1 : Ec_ v (up_ v 3 6 c) := fun a k q => up_n (by omega)
    have q2 : Er_ w (up_ (up_ w 814 13 c) 814 14 (w0 818 (v 3 5))) := fun a k q => by rw [up_n (by omega), up_n (by omega)]
    have e6 : up_ v 3 6 c 3 6 = c := up_s ⟨rfl, rfl⟩
    have e5 : up_ v 3 6 c 3 5 = v 3 5 := up_n (by omega)
    refine ⟨_, _, rfl, rfl, J_el h e.2.1 q1 q2 ?_ ?_ ?_ ?_ ?_ ?_, q1, q2, ?_⟩
    · rw [e5]; omega
    · rw [e5, up_n (by omega), up_n (by omega)]; exact h5
    · rw [e6, up_n (by omega), up_s ⟨rfl, rfl⟩]
    · rw [e6]; omega
    · rw [e5, up_s ⟨rfl, rfl⟩]; exact fun _ => rfl
    · rw [e6]; omega
    · rw [e6]; omega
  · rw [if_neg z, if_neg (by omega)]
    exact ⟨v, w, rfl, rfl, h, Ec_r, Er_r, z⟩
theorem take_N (e : EV_ M p i v0 w0) (h : J_ M p i v0 w0 v w) (h0 : v 3 6 = 0) (hs : v0 6 (v 3 5) ≠ 19 ∧ v0 6 (v 3 5) ≠ 20) : ∃ v' w', fX3_take 3 v = some (0, v') ∧ fX12_goesOn 814 w = some (0, w') ∧ J_ M p i v0 w0 v' w' ∧ Ec_ v v' ∧ Er_ w w' ∧ (v' 3 6 = 0 → v' 3 5 = v 3 5 + 1) := by
  have h' := h
  obtain ⟨f1, f2, g, h4, h5, h6, h7, h8, h9⟩ := h'
  have m1 := e.1.1
  have mE := e.1.2.2.2.2.2
  unfold fX3_take fX12_goesOn
  by_cases z : v 3 5 = 400
  · rw [if_neg (by omega), if_pos (by omega)]
    obtain ⟨v', w', a1, a2, a3, a4, a5, a6⟩ := fail_J e h (c := 2) (by decide)
    rw [a1, a2, bd_s, bd_s]
    exact ⟨v', w', rfl, rfl, a3, a4, a5, fun q => absurd q a6⟩
  · have hM : v 3 5 + 1 < M := by
      rcases mE with q | q | q
      · omega
      · by_cases c : v 3 5 = M - 1
        · rw [c] at hs; exact absurd q hs.1
        · omega
      · by_cases c : v 3 5 = M - 1
        · rw [c] at hs; exact absurd q hs.2
        · omega
    rw [if_pos (by omega), if_pos h0, if_neg (by omega), lt_d, lt_d, h5, wr_id (by omega)]
    have q1 : Ec_ v (up_ v 3 5 (v 3 5 + 1)) := fun a k q => up_n (by omega)
    have q2 : Er_ w (up_ w 814 11 (v 3 5 + 1)) := fun a k q => up_n (by omega)
    have e6 : up_ v 3 5 (v 3 5 + 1) 3 6 = v 3 6 := up_n (by omega)
    have e5 : up_ v 3 5 (v 3 5 + 1) 3 5 = v 3 5 + 1 := up_s ⟨rfl, rfl⟩
    refine ⟨_, _, rfl, rfl, J_el h e.2.1 q1 q2 ?_ ?_ ?_ ?_ ?_ ?_, q1, q2, fun _ => e5⟩
    · rw [e5]; omega
    · rw [e5]; exact up_s ⟨rfl, rfl⟩
    · rw [e6, up_n (by omega)]; exact h6
    · rw [e6]; exact h7
    · rw [e6]; exact fun q => absurd h0 q
    · exact fun _ => h0
/-- the class behind a fault -/
theorem take_F (h : v 3 6 ≠ 0) : fX3_take 3 v = some (0, v) := by
  unfold fX3_take
  by_cases c : v 3 5 < 400
  · rw [if_pos c, if_neg h]
  · rw [if_neg c, fX3_fail, if_neg h, bd_s]
theorem cfail_F (h : v 3 6 ≠ 0) : fX3_fail 3 c v = some (0, v) := by
  unfold fX3_fail
  rw [if_neg h]
theorem rfail_F (h : 0 < w 814 13) : fX12_fail 814 c w = some (0, w) := by
  unfold fX12_fail
  rw [if_neg (by omega)]
theorem expect_F (e : EV_ M p i v0 w0) (h : J_ M p i v0 w0 v w) (hF : v 3 6 ≠ 0) : fX3_expect 3 s v = some (0, v) := by
  unfold fX3_expect
  rw [sees_e e h]
  by_cases c : v0 6 (v 3 5) = s
  · rw [if_pos c, bd_s, if_neg n10_]
    try dsimp only
    rw [take_F hF, bd_s]
  · rw [if_neg c, bd_s, if_pos rfl]
    try dsimp only
    rw [cfail_F hF, bd_s]
theorem must_F (h : 0 < w 814 13) : fX12_must 814 t w = some (0, w) := by
  unfold fX12_must
  rw [is_F (by omega), bd_s, if_pos rfl]
  try dsimp only
  rw [rfail_F h, bd_s]
theorem expect_J (e : EV_ M p i v0 w0) (h : J_ M p i v0 w0 v w) (ht : TkS_ s t) (hs : s ≠ 19 ∧ s ≠ 20) : ∃ v' w', fX3_expect 3 s v = some (0, v') ∧ fX12_must 814 t w = some (0, w') ∧ J_ M p i v0 w0 v' w' ∧ Ec_ v v' ∧ Er_ w w' ∧ (v' 3 6 = 0 → v 3 6 = 0 ∧ v0 6 (v 3 5) = s ∧ v' 3 5 = v 3 5 + 1) := by
  have h6 := h.2.2.2.2.2.1
  have h7 := h.2.2.2.2.2.2.1
  by_cases z : v 3 6 = 0
  · unfold fX3_expect fX12_must
    rw [sees_e e h, is_s e h z ht]
    by_cases c : v0 6 (v 3 5) = s
    · rw [if_pos c, if_pos c, bd_s, bd_s, if_neg n10_, if_neg n10_]
      try dsimp only
      obtain ⟨v', w', a1, a2, a3, a4, a5, a6⟩ := take_N e h z (by rw [c]; exact hs)
      rw [a1, a2, bd_s, bd_s]
      exact ⟨v', w', rfl, rfl, a3, a4, a5, fun q => ⟨z, c, a6 q⟩⟩
    · rw [if_neg c, if_neg c, bd_s, bd_s, if_pos rfl, if_pos rfl]
      try dsimp only
      obtain ⟨v', w', a1, a2, a3, a4, a5, a6⟩ := fail_J e h (c := 1) (by decide)
      rw [a1, a2, bd_s, bd_s]
      exact ⟨v', w', rfl, rfl, a3, a4, a5, fun q => absurd q a6⟩
  · exact ⟨v, w, expect_F e h z, must_F (by omega), h, Ec_r, Er_r, fun q => absurd q z⟩
theorem isreg_e {x : Int} : fX11_isRegister x v = if 0 ≤ x ∧ x < 6 then some (1, v) else some (0, v) := by
  unfold fX11_isRegister
  by_cases c : x < 0
  · rw [if_pos c, if_neg (by omega)]
  · rw [if_neg c]
    by_cases d : 6 ≤ x
    · rw [if_pos d, if_neg (by omega)]
    · rw [if_neg d, if_pos (by omega)]
theorem TS_b (h : TkS_ s t) : (0 ≤ s ∧ s ≤ 61) ∧ 0 ≤ t ∧ t ≤ 36 ∧ ((11 ≤ s ∧ s ≤ 16) ↔ (31 ≤ t ∧ t ≤ 36)) ∧ ((11 ≤ s ∧ s ≤ 16) → t = s + 20) := by
  unfold TkS_ at h
  omega
theorem seesReg_e (e : EV_ M p i v0 w0) (h : J_ M p i v0 w0 v w) : fX3_seesRegister 3 v = if 11 ≤ v0 6 (v 3 5) ∧ v0 6 (v 3 5) ≤ 16 then some (1, v) else some (0, v) := by
  have b := (TS_b (J_ts e h)).1
  unfold fX3_seesRegister
  rw [show (3 : Int) + 1 = 4 from rfl, sortAt_e e h, bd_s]
  try dsimp only
  rw [wr_id (by omega), lt_d, isreg_e]
  by_cases c : 11 ≤ v0 6 (v 3 5) ∧ v0 6 (v 3 5) ≤ 16
  · rw [if_pos c, if_pos (by omega), bd_s, ck_t (by omega)]
  · rw [if_neg c, if_neg (by omega), bd_s, ck_t (by omega)]
theorem isReg_e (e : EV_ M p i v0 w0) (h : J_ M p i v0 w0 v w) (h0 : v 3 6 = 0) : fX12_isRegister 814 w = if 11 ≤ v0 6 (v 3 5) ∧ v0 6 (v 3 5) ≤ 16 then some (1, w) else some (0, w) := by
  have b := TS_b (J_ts e h)
  obtain ⟨-, -, t3, -⟩ := J_tok e h
  obtain ⟨-, -, -, h4, h5, h6, -⟩ := h
  have := e.1.1
  unfold fX12_isRegister
  rw [if_pos (by omega), ck_t (by omega), h5, show (814 : Int) + 3 = 817 from rfl, t3 817 _ (by decide) (by decide)]
  by_cases c : w0 817 (v 3 5) < 31
  · rw [if_pos c, if_neg (by omega)]
  · rw [if_neg c, ck_t (by omega)]
    by_cases d : 36 < w0 817 (v 3 5)
    · rw [if_pos d, if_neg (by omega)]
    · rw [if_neg d, if_pos (by omega)]
theorem isReg_F (h : w 814 13 ≠ 0) : fX12_isRegister 814 w = some (0, w) := by
  unfold fX12_isRegister
  rw [if_neg h]
theorem takeReg_F (e : EV_ M p i v0 w0) (h : J_ M p i v0 w0 v w) (hF : v 3 6 ≠ 0) : ∃ r, fX3_takeRegister 3 v = some (r, v) ∧ 0 ≤ r ∧ r < 6 := by
  have b := (TS_b (J_ts e h)).1
  unfold fX3_takeRegister
  rw [show (3 : Int) + 1 = 4 from rfl, sortAt_e e h, bd_s]
  try dsimp only
  rw [wr_id (by omega), lt_d, isreg_e]
  by_cases c : 0 ≤ v0 6 (v 3 5) - 11 ∧ v0 6 (v 3 5) - 11 < 6
  · rw [if_pos c, bd_s, if_neg n10_]
    try dsimp only
    rw [take_F hF, bd_s]
    exact ⟨_, rfl, c⟩
  · rw [if_neg c, bd_s, if_pos rfl]
    try dsimp only
    rw [cfail_F hF, bd_s]
    exact ⟨0, rfl, by decide⟩
theorem regTold_F (e : EV_ M p i v0 w0) (h : J_ M p i v0 w0 v w) (hF : v 3 6 ≠ 0) : fX12_registerTold 814 w = some (0, w) := by
  obtain ⟨-, -, -, h4, h5, h6, h7, -⟩ := h
  have := e.1.1
  unfold fX12_registerTold
  rw [ck_t (by omega), lt_d, isReg_F (by omega), bd_s, if_pos rfl]
  try dsimp only
  rw [rfail_F (by omega), bd_s, fX12_registerTold_25, if_neg (show ¬ w 814 13 ≤ 0 by omega)]
theorem takeReg_J (e : EV_ M p i v0 w0) (h : J_ M p i v0 w0 v w) : ∃ r r' v' w', fX3_takeRegister 3 v = some (r, v') ∧ fX12_registerTold 814 w = some (r', w') ∧ (0 ≤ r ∧ r < 6) ∧ J_ M p i v0 w0 v' w' ∧ Ec_ v v' ∧ Er_ w w' ∧ (v' 3 6 = 0 → v 3 6 = 0 ∧ r' = r ∧ v' 3 5 = v 3 5 + 1 ∧ (11 ≤ v0 6 (v 3 5) ∧ v0 6 (v 3 5) ≤ 16)) := by
  by_cases z : v 3 6 = 0
  · have b := TS_b (J_ts e h)
    obtain ⟨-, -, t3, -⟩ := J_tok e h
    have h4 := h.2.2.2.1
    have h5 := h.2.2.2.2.1
    have m1 := e.1.1
    unfold fX3_takeRegister fX12_registerTold
    rw [show (3 : Int) + 1 = 4 from rfl, sortAt_e e h, bd_s]
    try dsimp only
    rw [wr_id (by omega), lt_d, isreg_e, ck_t (by omega), h5, show (814 : Int) + 3 = 817 from rfl, t3 817 _ (by decide) (by decide), wr_id (x := w0 817 (v 3 5) - 31) (by omega), lt_d, isReg_e e h z]
    by_cases c : 11 ≤ v0 6 (v 3 5) ∧ v0 6 (v 3 5) ≤ 16
    · rw [if_pos (show 0 ≤ v0 6 (v 3 5) - 11 ∧ v0 6 (v 3 5) - 11 < 6 by omega), if_pos c, bd_s, bd_s, if_neg n10_, if_neg n10_]
      try dsimp only
      obtain ⟨v', w', a1, a2, a3, a4, a5, a6⟩ := take_N e h z (by omega)
      have h6 := h.2.2.2.2.2.1
      rw [a1, bd_s, fX12_registerTold_25, if_pos (by omega), a2, bd_s]
      exact ⟨_, _, v', w', rfl, rfl, by omega, a3, a4, a5, fun q => ⟨z, by omega, a6 q, c⟩⟩
    · rw [if_neg (show ¬ (0 ≤ v0 6 (v 3 5) - 11 ∧ v0 6 (v 3 5) - 11 < 6) by omega), if_neg c, bd_s, bd_s, if_pos rfl, if_pos rfl]
      try dsimp only
      obtain ⟨v', w', a1, a2, a3, a4, a5, a6⟩ := fail_J e h (c := 1) (by decide)
      have h6 := a3.2.2.2.2.2.1
      have h7 := a3.2.2.2.2.2.2.1
      rw [a1, a2, bd_s, bd_s, fX12_registerTold_25, if_neg (show ¬ w' 814 13 ≤ 0 by omega)]
      exact ⟨_, _, v', w', rfl, rfl, by omega, a3, a4, a5, fun q => absurd q a6⟩
  · obtain ⟨r, r1, r2⟩ := takeReg_F e h z
    exact ⟨r, 0, v, w, r1, regTold_F e h z, r2, h, Ec_r, Er_r, fun q => absurd q z⟩
theorem takeVal_F (e : EV_ M p i v0 w0) (h : J_ M p i v0 w0 v w) (hF : v 3 6 ≠ 0) : ∃ r, fX3_takeValue 3 v = some (r, v) := by
  unfold fX3_takeValue
  rw [seesReg_e e h]
  by_cases c : 11 ≤ v0 6 (v 3 5) ∧ v0 6 (v 3 5) ≤ 16
  · obtain ⟨r, r1, -⟩ := takeReg_F e h hF
    rw [if_pos c, bd_s, if_neg n10_]
    try dsimp only
    rw [r1, bd_s]
    exact ⟨_, rfl⟩
  · rw [if_neg c, bd_s, if_pos rfl]
    try dsimp only
    rw [show (3 : Int) + 1 = 4 from rfl, valueAt_e e h, bd_s, lt_d]
    try dsimp only
    rw [expect_F e h hF, bd_s]
    exact ⟨_, rfl⟩
theorem valTold_F (e : EV_ M p i v0 w0) (h : J_ M p i v0 w0 v w) (hF : v 3 6 ≠ 0) : fX12_valueTold 814 w = some (0, w) := by
  have h6 := h.2.2.2.2.2.1
  unfold fX12_valueTold
  rw [is_F (by omega), bd_s, if_pos rfl]
  try dsimp only
  rw [regTold_F e h hF, bd_s]
theorem takeVal_J (e : EV_ M p i v0 w0) (h : J_ M p i v0 w0 v w) : ∃ r r' v' w', fX3_takeValue 3 v = some (r, v') ∧ fX12_valueTold 814 w = some (r', w') ∧ J_ M p i v0 w0 v' w' ∧ Ec_ v v' ∧ Er_ w w' ∧ (v' 3 6 = 0 → v 3 6 = 0 ∧ r = vl_ r' ∧ VR_ r' ∧ v' 3 5 = v 3 5 + 1) := by
  by_cases z : v 3 6 = 0
  · have b := TS_b (J_ts e h)
    have ts := J_ts e h
    obtain ⟨-, -, t3, -⟩ := J_tok e h
    have h4 := h.2.2.2.1
    have h5 := h.2.2.2.2.1
    have m1 := e.1.1
    have t18 : TkS_ 18 2 := by unfold TkS_; omega
    unfold fX3_takeValue fX12_valueTold
    rw [seesReg_e e h, is_s e h z t18]
    by_cases c : 11 ≤ v0 6 (v 3 5) ∧ v0 6 (v 3 5) ≤ 16
    · obtain ⟨r, r', v', w', a1, a2, a3, a4, a5, a6, a7⟩ := takeReg_J e h
      rw [if_pos c, if_neg (show ¬ v0 6 (v 3 5) = 18 by omega), bd_s, bd_s, if_neg n10_, if_pos rfl]
      try dsimp only
      rw [a1, a2, bd_s, bd_s]
      try dsimp only
      refine ⟨_, _, v', w', rfl, rfl, a4, a5, a6, fun q => ?_⟩
      obtain ⟨-, x2, x3, x4⟩ := a7 q
      refine ⟨z, ?_, Or.inl (by omega), x3⟩
      rw [x2, bX_m (by unfold iR_; omega)]
      unfold vl_
      rw [if_pos (by omega)]
    · rw [if_neg c, bd_s, if_pos rfl, show (3 : Int) + 1 = 4 from rfl]
      try dsimp only
      rw [valueAt_e e h, bd_s, lt_d]
      try dsimp only
      by_cases d : v0 6 (v 3 5) = 18
      · rw [if_pos d, bd_s, if_neg n10_, ck_t (show 0 ≤ w 814 11 ∧ w 814 11 < 403 by omega), lt_d]
        try dsimp only [Int.reduceAdd]
        rw [h5, t3 819 _ (by decide) (by decide), fX3_expect, sees_e e h, if_pos d, bd_s, if_neg n10_]
        try dsimp only
        obtain ⟨v', w', a1, a2, a3, a4, a5, a6⟩ := take_N e h z (by omega)
        obtain ⟨n1, n2, n3⟩ := (e.1.2.2.1 _ h4.1 h4.2).1.2.1 d
        rw [a1, a2, bd_s, bd_s]
        try dsimp only
        rw [bd_s, wr_id (x := 20 + w0 819 (v 3 5)) (by omega), n1, wr_id (by omega)]
        refine ⟨_, _, v', w', rfl, rfl, a3, a4, a5, fun q => ⟨z, ?_, Or.inr (by omega), a6 q⟩⟩
        unfold vl_
        rw [if_neg (by omega)]
        omega
      · obtain ⟨r, r', v', w', a1, a2, a3, a4, a5, a6, a7⟩ := takeReg_J e h
        rw [if_neg d, bd_s, if_pos rfl, fX3_expect, sees_e e h, if_neg d, bd_s, if_pos rfl]
        try dsimp only
        have k1 : fX3_takeRegister 3 v = bd_ (fX3_fail 3 1 v) fun q7 => some (0, q7.2) := by
          unfold fX3_takeRegister
          rw [show (3 : Int) + 1 = 4 from rfl, sortAt_e e h, bd_s]
          try dsimp only
          rw [wr_id (by omega), lt_d, isreg_e, if_neg (by omega), bd_s, if_pos rfl]
        rw [k1] at a1
        obtain ⟨u, u1, u2⟩ := bd_e a1
        cases u2
        rw [u1, a2, bd_s, bd_s]
        try dsimp only
        rw [bd_s]
        refine ⟨_, _, _, w', rfl, rfl, a4, a5, a6, fun q => ?_⟩
        exact absurd (a7 q).2.2.2 c
  · obtain ⟨r, r1⟩ := takeVal_F e h z
    exact ⟨r, 0, v, w, r1, valTold_F e h z, h, Ec_r, Er_r, fun q => absurd q z⟩
end PARSE
