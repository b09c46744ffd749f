/-! layer 2: the reference's constructor -/
def ap27_ (x c : Int) : Int := if c = 0 then x else wl_ (wl_ (27 * x) + wr_ (wr_ (c - 97) + 1))
def lt7_ (a b c d e f g : Int) : Int := ap27_ (ap27_ (ap27_ (ap27_ (ap27_ (ap27_ (ap27_ 0 a) b) c) d) e) f) g
/-- the first n words -/
def wk_ (u : V_) (n : Int) : V_ := fun a k => if a = 821 ∧ 0 ≤ k ∧ k < n then pw_ 27 (wd_ k) else u a k
section MOD
variable {u v w : V_} {n : Int}
theorem app_e {x c : Int} : fX12_appends x c w = some (ap27_ x c, w) := by
  unfold fX12_appends ap27_
  split <;> rfl
theorem let_e {a b c d e f g : Int} : fX12_letters a b c d e f g w = some (lt7_ a b c d e f g, w) := by
  unfold fX12_letters lt7_
  rw [app_e, bd_s]
  try dsimp only
  rw [app_e, bd_s]
  try dsimp only
  rw [app_e, bd_s]
  try dsimp only
  rw [app_e, bd_s]
  try dsimp only
  rw [app_e, bd_s]
  try dsimp only
  rw [app_e, bd_s]
  try dsimp only
  rw [app_e, bd_s]
theorem wk_0 : wk_ u 0 = u := by
  funext a k
  exact if_neg (by omega)
theorem wk_o {a k : Int} (h : a ≠ 821) : wk_ u n a k = u a k := if_neg (fun q => h q.1)
theorem wk_s (m : Int) (h0 : 0 ≤ n) (h : m = n + 1) : up_ (wk_ u n) (814 + 7) n (pw_ 27 (wd_ n)) = wk_ u m := by
  show up_ (wk_ u n) 821 n (pw_ 27 (wd_ n)) = wk_ u m
  funext a k
  unfold wk_
  by_cases q : a = 821 ∧ k = n
  · rw [up_s q, if_pos (by omega), q.2]
  · rw [up_n q]
    by_cases q2 : a = 821 ∧ 0 ≤ k ∧ k < n
    · rw [if_pos q2, if_pos (by omega)]
    · rw [if_neg q2, if_neg (by omega)]
theorem Sc12 (h : ∀ k, u 814 k = px_ iv_ (fun k => if k = 17 then -1 else 0) v 814 59 814 k) : Sc_ 814 (814 + 59) u := by
  refine ⟨clM, St_iv _ fun a ha k o ho => ?_⟩
  by_cases c : a = 814
  · rw [c] at ho ⊢
    rw [t814.1, t814.2] at ho
    unfold of_ at ho
    rw [if_pos (by decide)] at ho
    have e := iv_814 k ho
    have m := ofO_mx ho
    have m2 : mofs_ 12 = 58 := rfl
    rw [h]
    unfold px_
    rw [if_pos rfl, e, if_pos (by omega)]
  · exfalso
    have t := tyM' (j := a - 814) (by omega)
    rw [show 814 + (a - 814) = a by omega] at t
    unfold of_ ofA_ at ho
    rw [if_neg (by omega)] at ho
    split at ho
    · cases ho
    · rw [if_neg (by omega), if_neg (by omega), if_neg (by omega), if_neg (by omega)] at ho
      cases ho
theorem tw7 : ty_ (814 + 7) = 22 ∧ ln_ (814 + 7) = 17 := by decide +kernel
theorem X12_words (h9 : u 814 9 = 821) : (ck_ (u 814 9 = 814 + 7 ∧ (ty_ (814 + 7) = 22 ∧ ln_ (814 + 7) = 17) ∧ (814 : Int) + 7 < 814 + 59) (
  bd_ (fX12_letters 117 110 105 116 115 0 0 u) fun q184 =>
  lt_ (up_ q184.2 (814 + 7) 0 q184.1) fun v185 =>
  fX12_init_521 814 v185)) = (ckp_ (Sc_ 814 (814 + 59) (wk_ u 17)) (
  bd_ (fX12_begins 814 (wk_ u 17)) fun q250 =>
  ckp_ (Sc_ 814 (814 + 59) q250.2) (
  bd_ (fX12_keepsRow 814 q250.2) fun q253 =>
  some ((0 : Int), q253.2)))) := by
  have C : ∀ n, wk_ u n 814 9 = 814 + 7 ∧ (ty_ (814 + 7) = 22 ∧ ln_ (814 + 7) = 17) ∧ (814 : Int) + 7 < 814 + 59 := fun n => ⟨by rw [wk_o (by decide)]; exact h9, tw7, by decide⟩
  have C0 := C 0
  rw [wk_0] at C0
  rw [ck_t C0]
  conv => lhs; rw [← wk_0 (u := u)]
  rw [let_e, bd_s, show lt7_ 117 110 105 116 115 0 0 = pw_ 27 (wd_ 0) by decide]
  try dsimp only
  rw [wk_s (n := 0) 1 (by decide) (by decide), lt_d]
  unfold fX12_init_521
  rw [ck_t (C 1)]
  rw [let_e, bd_s, show lt7_ 98 108 111 99 107 0 0 = pw_ 27 (wd_ 1) by decide]
  try dsimp only
  rw [wk_s (n := 1) 2 (by decide) (by decide), lt_d]
  rw [ck_t (C 2)]
  rw [let_e, bd_s, show lt7_ 115 117 109 115 0 0 0 = pw_ 27 (wd_ 2) by decide]
  try dsimp only
  rw [wk_s (n := 2) 3 (by decide) (by decide), lt_d]
  rw [ck_t (C 3)]
  rw [let_e, bd_s, show lt7_ 104 97 114 100 0 0 0 = pw_ 27 (wd_ 3) by decide]
  try dsimp only
  rw [wk_s (n := 3) 4 (by decide) (by decide), lt_d]
  unfold fX12_init_582
  rw [ck_t (C 4)]
  rw [let_e, bd_s, show lt7_ 99 101 108 108 115 0 0 = pw_ 27 (wd_ 4) by decide]
  try dsimp only
  rw [wk_s (n := 4) 5 (by decide) (by decide), lt_d]
  rw [ck_t (C 5)]
  rw [let_e, bd_s, show lt7_ 106 117 109 112 115 0 0 = pw_ 27 (wd_ 5) by decide]
  try dsimp only
  rw [wk_s (n := 5) 6 (by decide) (by decide), lt_d]
  rw [ck_t (C 6)]
  rw [let_e, bd_s, show lt7_ 97 116 0 0 0 0 0 = pw_ 27 (wd_ 6) by decide]
  try dsimp only
  rw [wk_s (n := 6) 7 (by decide) (by decide), lt_d]
  unfold fX12_init_643
  rw [ck_t (C 7)]
  rw [let_e, bd_s, show lt7_ 103 111 116 111 0 0 0 = pw_ 27 (wd_ 7) by decide]
  try dsimp only
  rw [wk_s (n := 7) 8 (by decide) (by decide), lt_d]
  rw [ck_t (C 8)]
  rw [let_e, bd_s, show lt7_ 105 102 0 0 0 0 0 = pw_ 27 (wd_ 8) by decide]
  try dsimp only
  rw [wk_s (n := 8) 9 (by decide) (by decide), lt_d]
  rw [ck_t (C 9)]
  rw [let_e, bd_s, show lt7_ 101 108 115 101 0 0 0 = pw_ 27 (wd_ 9) by decide]
  try dsimp only
  rw [wk_s (n := 9) 10 (by decide) (by decide), lt_d]
  unfold fX12_init_704
  rw [ck_t (C 10)]
  rw [let_e, bd_s, show lt7_ 115 116 111 112 0 0 0 = pw_ 27 (wd_ 10) by decide]
  try dsimp only
  rw [wk_s (n := 10) 11 (by decide) (by decide), lt_d]
  rw [ck_t (C 11)]
  rw [let_e, bd_s, show lt7_ 97 0 0 0 0 0 0 = pw_ 27 (wd_ 11) by decide]
  try dsimp only
  rw [wk_s (n := 11) 12 (by decide) (by decide), lt_d]
  rw [ck_t (C 12)]
  rw [let_e, bd_s, show lt7_ 98 0 0 0 0 0 0 = pw_ 27 (wd_ 12) by decide]
  try dsimp only
  rw [wk_s (n := 12) 13 (by decide) (by decide), lt_d]
  unfold fX12_init_761
  rw [ck_t (C 13)]
  rw [let_e, bd_s, show lt7_ 99 0 0 0 0 0 0 = pw_ 27 (wd_ 13) by decide]
  try dsimp only
  rw [wk_s (n := 13) 14 (by decide) (by decide), lt_d]
  rw [ck_t (C 14)]
  rw [let_e, bd_s, show lt7_ 100 0 0 0 0 0 0 = pw_ 27 (wd_ 14) by decide]
  try dsimp only
  rw [wk_s (n := 14) 15 (by decide) (by decide), lt_d]
  rw [ck_t (C 15)]
  rw [let_e, bd_s, show lt7_ 101 0 0 0 0 0 0 = pw_ 27 (wd_ 15) by decide]
  try dsimp only
  rw [wk_s (n := 15) 16 (by decide) (by decide), lt_d]
  unfold fX12_init_815
  rw [ck_t (C 16)]
  rw [let_e, bd_s, show lt7_ 102 0 0 0 0 0 0 = pw_ 27 (wd_ 16) by decide]
  try dsimp only
  rw [wk_s (n := 16) 17 (by decide) (by decide), lt_d]
theorem X12_T (v : V_) : ∃ w, fX12_init 814 (zr_ v 814) = some (0, w) ∧ (∀ a k, a < 814 → w a k = v a k) ∧ (∀ k, w 814 k = px_ iv_ (fun k => if k = 17 then -1 else 0) v 814 59 814 k) ∧ (∀ k, 0 ≤ k → k < 17 → w 821 k = pw_ 27 (wd_ k)) ∧ (∀ k, 0 ≤ k → k < 38 → w 837 k = 0) ∧ w 837 38 = 1 ∧ (∀ t, 0 ≤ t → t < 4 → w 837 (39 + t) = 1 ∧ w 837 (43 + t) = lq4_ t) ∧ w 823 0 = 0 ∧ ∀ k, w 871 k = 0 := by
  rw [X12_arr]
  have hM : ∀ a k, a ≠ 814 → a < 873 → 814 < a → px_ iv_ (fun k => if k = 17 then -1 else 0) v 814 59 a k = 0 := fun a k k1 k2 k3 => by
    unfold px_
    rw [if_neg k1, if_pos (by omega)]
    have t := tyM' (j := a - 814) (by omega)
    rw [show 814 + (a - 814) = a by omega] at t
    exact iv_arr t
  have hL : ∀ a k, a < 814 → px_ iv_ (fun k => if k = 17 then -1 else 0) v 814 59 a k = v a k := fun a k k1 => by
    unfold px_
    rw [if_neg (by omega), if_neg (by omega)]
  have h9 : px_ iv_ (fun k => if k = 17 then -1 else 0) v 814 59 814 9 = 821 := by
    unfold px_
    rw [if_pos rfl, show iv_ 814 9 = 821 by decide +kernel, if_pos (by decide)]
  have h18 : px_ iv_ (fun k => if k = 17 then -1 else 0) v 814 59 814 18 = 0 := by
    unfold px_
    rw [if_pos rfl, show iv_ 814 18 = 0 by decide +kernel, if_neg (by decide)]
    rfl
  generalize hm : px_ iv_ (fun k => if k = 17 then -1 else 0) v 814 59 = m at hM hL h9 h18 ⊢
  have S : ∀ u : V_, (∀ k, u 814 k = m 814 k) → Sc_ 814 (814 + 59) u := fun u hu => Sc12 (v := v) (by rw [hm]; exact hu)
  obtain ⟨u1, a1, b1, c1, d1⟩ := plain_T (i := 0) (w := m) (Or.inl rfl)
  obtain ⟨u2, a2, b2, c2, d2⟩ := plain_T (i := 1) (w := u1) (Or.inr rfl)
  have f1 : ∀ k, u1 814 k = m 814 k := fun k => b1 _ _ (by omega) (by omega)
  have f2 : ∀ k, u2 814 k = m 814 k := fun k => (b2 _ _ (by omega) (by omega)).trans (f1 k)
  have f3 : ∀ k, wk_ u2 17 814 k = m 814 k := fun k => (wk_o (by decide)).trans (f2 k)
  obtain ⟨u3, a3, b3, c3, d3, e3⟩ := begins_T (w := wk_ u2 17) (i := 0) ⟨(f3 18).trans h18, Or.inl rfl⟩
  have f4 : ∀ k, u3 814 k = m 814 k := fun k => (b3 _ _ (by decide)).trans (f3 k)
  rw [ckp_t (S m fun _ => rfl), a1, bd_s]
  try dsimp only
  rw [ckp_t (S u1 f1), a2, bd_s]
  try dsimp only
  have E := X12_words ((f2 9).trans h9)
  rw [ckp_t (S _ f3), a3, bd_s] at E
  try dsimp only at E
  rw [ckp_t (S u3 f4), keepsRow_e, bd_s] at E
  have R : ∀ k, 0 ≤ k → k < 47 → cp_ u3 838 0 837 0 47 837 k = u3 838 k := fun k k0 k1 => by
    rw [cp_i ⟨rfl, k0, by omega⟩, show (0 : Int) + (k - 0) = k by omega]
  refine ⟨cp_ u3 838 0 837 0 47, E, fun a k k1 => ?_, fun k => ?_, fun k k0 k1 => ?_, fun k k0 k1 => ?_, ?_, fun t t0 t1 => ?_, ?_, fun k => ?_⟩
  · try dsimp only
    rw [cp_o (by omega), b3 _ _ (by omega), wk_o (by omega), b2 _ _ (by omega) (by omega), b1 _ _ (by omega) (by omega)]
    exact hL a k k1
  · rw [cp_o (by omega)]; exact f4 k
  · rw [cp_o (by omega), b3 _ _ (by omega)]
    exact if_pos ⟨rfl, k0, k1⟩
  · rw [R k k0 (by omega)]; exact c3 k k0 k1
  · rw [R 38 (by decide) (by decide)]; exact d3
  · rw [R _ (by omega) (by omega), R _ (by omega) (by omega)]
    obtain ⟨y1, y2⟩ := e3 t t0 t1
    rw [y1, y2, wk_o (by decide), wk_o (by decide), b2 _ _ (by omega) (by omega), b2 _ _ (by omega) (by omega)]
    exact d1 t t0 t1
  · rw [cp_o (by omega), b3 _ _ (by decide), wk_o (by decide), b2 _ _ (by omega) (by omega)]
    exact c1
  · rw [cp_o (by omega), b3 _ _ (by decide), wk_o (by decide), b2 _ _ (by omega) (by omega), b1 _ _ (by omega) (by omega)]
    exact hM _ _ (by decide) (by decide) (by decide)
end MOD
