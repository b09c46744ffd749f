/-! layer 2: all tokens, in both -/
def TE_ (v w : V_) (k : Int) : Prop := TQ_ (v 6 k) (w 817 k) (v 8 k) (w 819 k) (w 820 k) ∧ v 7 k = w 818 k ∧ 0 ≤ w 818 k
def TI_ (c x : Int) (v w : V_) : Prop := v 4 4 = c ∧ w 814 10 = c ∧ (∀ k, 0 ≤ k → k < c → TE_ v w k ∧ v 6 k ≠ 19 ∧ v 6 k ≠ 20 ∧ w 818 k < x) ∧ ∀ j k, 0 ≤ j → j < k → k < c → w 818 j < w 818 k
def TF_ (M : Int) (v w : V_) : Prop := (1 ≤ M ∧ M ≤ 401) ∧ v 4 4 = M ∧ (∀ k, 0 ≤ k → k < M → TE_ v w k) ∧ (∀ k, 0 ≤ k → k + 1 < M → v 6 k ≠ 19 ∧ v 6 k ≠ 20) ∧ (∀ j k, 0 ≤ j → j < k → k < M → w 818 j < w 818 k) ∧ (M = 401 ∨ v 6 (M - 1) = 19 ∨ v 6 (M - 1) = 20)
def Ft1_ (v v' : V_) : Prop := ∀ a k, ¬ (6 ≤ a ∧ a ≤ 8) → ¬ (a = 4 ∧ k = 4) → v' a k = v a k
def Ft2_ (w w' : V_) : Prop := ∀ a k, ¬ (817 ≤ a ∧ a ≤ 820) → ¬ (a = 814 ∧ k = 10) → w' a k = w a k
section SCAN
variable {B : Int → Int} {n c y x s t a b d : Int} {v w : V_}
theorem bl_ex : ∀ (d : Nat) (x : Int), x ≤ n → (n - x).toNat = d → ∃ m : Nat, x + m ≤ n ∧ (∀ j, x ≤ j → j < x + m → Bk_ (B j)) ∧ (x + m = n ∨ ¬ Bk_ (B (x + m))) := by
  intro d
  induction d with
  | zero => exact fun x h h2 => ⟨0, by omega, fun j j0 j1 => by omega, Or.inl (by omega)⟩
  | succ d ih =>
    intro x h h2
    by_cases c : Bk_ (B x)
    · obtain ⟨m, m1, m2, m3⟩ := ih (x + 1) (by omega) (by omega)
      refine ⟨m + 1, by omega, fun j j0 j1 => ?_, ?_⟩
      · by_cases q : j = x
        · rw [q]; exact c
        · exact m2 j (by omega) (by omega)
      · rw [show x + ((m + 1 : Nat) : Int) = x + 1 + (m : Int) by omega]
        exact m3
    · exact ⟨0, by omega, fun j j0 j1 => by omega, Or.inr (by rw [show x + ((0 : Nat) : Int) = x by omega]; exact c)⟩
theorem cbl_e {m : Nat} (hb : BB_ B n) (h : CB_ B n v) (x0 : 0 ≤ x) (m1 : x + m ≤ n) (m2 : ∀ j, x ≤ j → j < x + m → Bk_ (B j)) (m3 : x + m = n ∨ ¬ Bk_ (B (x + m))) : fX9_behindBlanks 2 n x v = some (x + m, v) := by
  have hn := hb.1
  unfold fX9_behindBlanks
  obtain ⟨s, e, -⟩ := lp_s (σ := Unit) (α := Option (Int × V_)) (F := fun N i _ => fX9_behindBlanks_2 N 2 n i v) (K := fun _ => some (x + m, v)) (I := fun i _ => x ≤ i) (e := x + m) (fun N i s i0 im => by
    refine ⟨(), ?_, by omega⟩
    rw [fX9_behindBlanks_2, if_neg (by omega), ck_t (by omega), cbk_e, bd_s]
    try dsimp only
    rw [if_neg (show ¬ bk1_ (v 2 i) = 0 by rw [h i (by omega) (by omega)]; exact bk_y (m2 i i0 im)), wr_id (by omega), lt_d]) (fun N s _ => by
    try dsimp only
    rw [fX9_behindBlanks_2]
    by_cases q : n ≤ x + m
    · rw [if_pos q]
    · rw [if_neg q, ck_t (by omega), cbk_e, bd_s]
      try dsimp only
      rw [if_pos (show bk1_ (v 2 (x + m)) = 0 by rw [h _ (by omega) (by omega)]; exact bk_n (m3.resolve_left (by omega)))]) m fu_ x () (Int.le_refl _) rfl (by unfold fu_; omega)
  exact e
theorem rbl_e (hb : BB_ B n) (h : RB_ B n w) (hc : w 814 10 = c) (c0 : 0 ≤ c ∧ c ≤ 400) : ∀ (m N : Nat) (x : Int), 0 ≤ x → x + m ≤ n → (∀ j, x ≤ j → j < x + m → Bk_ (B j)) → fX12_cut_7 (N + m) 814 x w = fX12_cut_7 N 814 (x + m) w := by
  have hn := hb.1
  intro m
  induction m with
  | zero => exact fun N x _ _ _ => by rw [show x + ((0 : Nat) : Int) = x by omega]; rfl
  | succ m ih =>
    intro N x x0 m1 m2
    have hx := m2 x (by omega) (by omega)
    have st : fX12_cut_7 (N + m + 1) 814 x w = fX12_cut_7 (N + m) 814 (x + 1) w := by
      rw [fX12_cut_7, hc, if_neg (show ¬ 400 < c by omega), byte_e hb h x0, bd_s]
      try dsimp only
      unfold Bk_ at hx
      rw [if_pos (show x < w 814 4 by rw [h.1]; omega), if_neg (show ¬ n ≤ x by omega), if_neg (show ¬ B x < 0 by omega), wr_id (by omega)]
      simp only [lt_d]
      by_cases c1 : B x = 9
      · rw [if_pos c1]
      · rw [if_neg c1]
        by_cases c2 : B x = 10
        · rw [if_pos c2]
        · rw [if_neg c2]
          by_cases c3 : B x = 13
          · rw [if_pos c3]
          · rw [if_neg c3, if_pos (by omega)]
    rw [show N + (m + 1) = N + m + 1 by omega, st, ih N (x + 1) (by omega) (by omega) fun j j0 j1 => m2 j (by omega) (by omega), show x + ((m + 1 : Nat) : Int) = x + 1 + (m : Int) by omega]
theorem rend_e {N : Nat} (hb : BB_ B n) (h : RB_ B n w) (hc : w 814 10 = c) (c0 : 0 ≤ c ∧ c ≤ 400) : fX12_cut_7 (N + 1) 814 n w = some (0, tkR_ w c 0 n 0 0) := by
  have hn := hb.1
  rw [fX12_cut_7, hc, if_neg (show ¬ 400 < c by omega), byte_e hb h (by omega), bd_s]
  try dsimp only
  rw [if_neg (show ¬ n < w 814 4 by rw [h.1]; omega), h.1, token_e hc (by omega), bd_s]
theorem tkR_B (h : RB_ B n w) : RB_ B n (tkR_ w c t y b d) := ⟨by rw [tkR_o (by omega) (by omega)]; exact h.1, fun k k0 k1 => by rw [tkR_o (by omega) (by omega)]; exact h.2 k k0 k1⟩
theorem tkR_N (h : RN_ v w) : RN_ v (tkR_ w c t y b d) := fun k k0 k1 => by rw [tkR_o (by omega) (by omega)]; exact h k k0 k1
theorem tkC_N (h : RN_ v w) : RN_ (tkC_ v c s y a) w := fun k k0 k1 => by rw [tkC_o (by omega) (by omega)]; exact h k k0 k1
theorem tkC_B (h : CB_ B n v) : CB_ B n (tkC_ v c s y a) := fun k k0 k1 => by rw [tkC_o (by omega) (by omega)]; exact h k k0 k1
theorem tkC_F : Ft1_ v (tkC_ v c s y a) := fun h k q q2 => tkC_o (by omega) q2
theorem tkR_F : Ft2_ w (tkR_ w c t y b d) := fun h k q q2 => tkR_o (by omega) q2
theorem Ft1_tr {u v w : V_} (h : Ft1_ u v) (h2 : Ft1_ v w) : Ft1_ u w := fun a k q q2 => (h2 a k q q2).trans (h a k q q2)
theorem Ft2_tr {u v w : V_} (h : Ft2_ u v) (h2 : Ft2_ v w) : Ft2_ u w := fun a k q q2 => (h2 a k q q2).trans (h a k q q2)
/-- the reference goes on behind what is no token -/
theorem rest_T (hb : BB_ B n) (hN : RN_ v w) (c0 : 0 ≤ c) : ∀ (d : Nat) (x : Int) (u : V_) (N : Nat), (n - x).toNat = d → 0 ≤ x → x ≤ n → RB_ B n u → RN_ v u → 0 ≤ u 814 10 → u 814 10 ≤ 401 → c ≤ u 814 10 → d < N → ∃ u', fX12_cut_7 N 814 x u = some (0, u') ∧ Ft2_ u u' ∧ ∀ a k, k < c → a ≠ 814 → u' a k = u a k := by
  have hn := hb.1
  intro d
  induction d using Nat.strongRecOn with
  | _ d ih =>
    intro x u N hd x0 xn hB hN2 u0 u1 cu hN1
    by_cases c4 : 400 < u 814 10
    · obtain ⟨N, rfl⟩ : ∃ m, N = m + 1 := ⟨N - 1, by omega⟩
      exact ⟨u, by rw [fX12_cut_7, if_pos c4], fun _ _ _ _ => rfl, fun _ _ _ _ => rfl⟩
    · obtain ⟨m, m1, m2, m3⟩ := bl_ex (B := B) (n := n) _ x xn rfl
      obtain ⟨N, rfl⟩ : ∃ q, N = q + 1 + m := ⟨N - 1 - m, by omega⟩
      rw [rbl_e hb hB rfl (by omega) m (N + 1) x x0 m1 m2]
      by_cases q : x + m = n
      · rw [q, rend_e hb hB rfl (by omega)]
        exact ⟨_, rfl, tkR_F, fun a k q2 q3 => tkR_o (by omega) (by omega)⟩
      · have hk := m3.resolve_left q
        -- any class's memory that holds the bytes
        have T := tok_T (v := fun h k => if h = 2 then B k else if h = 4 then u 814 10 else v h k) (w := u) (c := u 814 10) hb (fun k _ _ => if_pos rfl) (fun k k0 k1 => by
          have := hN2 k k0 k1
          exact this) (show 0 ≤ x + (m : Int) by omega) (by omega) hk (by rfl) (by omega)
        obtain ⟨e, s, t, a, e1, e2, -, -, -, -, R⟩ := T
        obtain ⟨b, d', -, R⟩ := R N u hB hN2 rfl
        rw [R]
        obtain ⟨u', f1, f2, f3⟩ := ih (n - e).toNat (by omega) e (tkR_ u (u 814 10) t (x + m) b d') N rfl (by omega) e2 (tkR_B hB) (tkR_N hN2) (by rw [tkR_10]; omega) (by rw [tkR_10]; omega) (by rw [tkR_10]; omega) (by omega)
        exact ⟨u', f1, Ft2_tr tkR_F f2, fun a' k q2 q3 => (f3 a' k q2 q3).trans (tkR_o (by omega) (by omega))⟩
theorem TE_n {v' w' : V_} {k : Int} (h : TE_ v w k) (f1 : ∀ h, 6 ≤ h → h ≤ 8 → v' h k = v h k) (f2 : ∀ h, 817 ≤ h → h ≤ 820 → w' h k = w h k) : TE_ v' w' k := by
  unfold TE_
  rw [f1 6 (by decide) (by decide), f1 7 (by decide) (by decide), f1 8 (by decide) (by decide), f2 817 (by decide) (by decide), f2 818 (by decide) (by decide), f2 819 (by decide) (by decide), f2 820 (by decide) (by decide)]
  exact h
/-- one more -/
theorem TI_s (h : TI_ c x v w) (c0 : 0 ≤ c) (y0 : 0 ≤ y) (xy : x ≤ y) (hq : TQ_ s t a b d) : (∀ k, 0 ≤ k → k < c + 1 → TE_ (tkC_ v c s y a) (tkR_ w c t y b d) k) ∧ (∀ k, 0 ≤ k → k < c → tkC_ v c s y a 6 k ≠ 19 ∧ tkC_ v c s y a 6 k ≠ 20) ∧ (∀ j k, 0 ≤ j → j < k → k < c + 1 → tkR_ w c t y b d 818 j < tkR_ w c t y b d 818 k) ∧ ∀ k, 0 ≤ k → k < c + 1 → tkR_ w c t y b d 818 k ≤ y := by
  obtain ⟨h1, h2, h3, h4⟩ := h
  refine ⟨fun k k0 k1 => ?_, fun k k0 k1 => ?_, fun j k j0 jk k1 => ?_, fun k k0 k1 => ?_⟩
  · by_cases q : k = c
    · rw [q]
      unfold TE_
      rw [tkC_6, tkC_7, tkC_8, tkR_7, tkR_8, tkR_9, tkR_20]
      exact ⟨hq, rfl, y0⟩
    · exact TE_n (h3 k k0 (by omega)).1 (fun h _ _ => tkC_o (by omega) (by omega)) (fun h _ _ => tkR_o (by omega) (by omega))
  · rw [tkC_o (by omega) (by omega)]
    exact ⟨(h3 k k0 k1).2.1, (h3 k k0 k1).2.2.1⟩
  · rw [tkR_o (k := j) (by omega) (by omega)]
    by_cases q : k = c
    · rw [q, tkR_8]
      have := (h3 j j0 (by omega)).2.2.2
      omega
    · rw [tkR_o (by omega) (by omega)]
      exact h4 j k j0 jk (by omega)
  · by_cases q : k = c
    · rw [q, tkR_8]
      omega
    · rw [tkR_o (by omega) (by omega)]
      have := (h3 k k0 (by omega)).2.2.2
      omega
theorem scan_T (hb : BB_ B n) : ∀ (dd : Nat) (x c : Int) (v w : V_) (N1 N2 : Nat), (n - x).toNat = dd → 0 ≤ x → x ≤ n → 0 ≤ c → c ≤ 401 → CB_ B n v → RB_ B n w → RN_ v w → TI_ c x v w → dd + 1 < N1 → dd < N2 → ∃ M v' w', fX9_scan_13 N1 4 2 n x 1 c v = some (0, v') ∧ fX12_cut_7 N2 814 x w = some (0, w') ∧ TF_ M v' w' ∧ Ft1_ v v' ∧ Ft2_ w w' := by
  have hn := hb.1
  intro dd
  induction dd using Nat.strongRecOn with
  | _ dd ih =>
    intro x c v w N1 N2 hd x0 xn c0 c1 hC hR hN hI hN1 hN2
    obtain ⟨N1, rfl⟩ : ∃ m, N1 = m + 1 := ⟨N1 - 1, by omega⟩
    have hI' := hI
    obtain ⟨i1, i2, i3, i4⟩ := hI'
    rw [fX9_scan_13, if_neg n10_]
    by_cases c4 : 400 < c
    · obtain ⟨N2, rfl⟩ : ∃ m, N2 = m + 1 := ⟨N2 - 1, by omega⟩
      have e : c = 401 := by omega
      rw [if_pos c4, fX12_cut_7, if_pos (by omega)]
      exact ⟨401, v, w, rfl, rfl, ⟨by omega, by omega, fun k k0 k1 => (i3 k k0 (by omega)).1, fun k k0 k1 => ⟨(i3 k k0 (by omega)).2.1, (i3 k k0 (by omega)).2.2.1⟩, fun j k j0 jk k1 => i4 j k j0 jk (by omega), Or.inl rfl⟩, fun _ _ _ _ => rfl, fun _ _ _ _ => rfl⟩
    · obtain ⟨m, m1, m2, m3⟩ := bl_ex (B := B) (n := n) _ x xn rfl
      obtain ⟨N2, rfl⟩ : ∃ q, N2 = q + 1 + m := ⟨N2 - 1 - m, by omega⟩
      rw [if_neg c4, cbl_e hb hC x0 m1 m2 m3, bd_s, rbl_e hb hR i2 (by omega) m (N2 + 1) x x0 m1 m2]
      try dsimp only
      by_cases q : x + m = n
      · have hq : TQ_ 19 0 0 0 0 := ⟨by unfold TkS_; omega, fun q => absurd q (by decide), fun q => absurd q (by decide)⟩
        obtain ⟨t1, t2, t3, t4⟩ := TI_s (y := n) hI c0 (by omega) xn hq
        obtain ⟨N1, rfl⟩ : ∃ m, N1 = m + 1 := ⟨N1 - 1, by omega⟩
        rw [q, if_neg (by omega), add_e i1 (by omega), bd_s, rend_e hb hR i2 (by omega)]
        try dsimp only
        rw [lt_d, fX9_scan_13, if_pos rfl]
        refine ⟨c + 1, _, _, rfl, rfl, ⟨by omega, tkC_4, t1, fun k k0 k1 => t2 k k0 (by omega), t3, Or.inr (Or.inl ?_)⟩, tkC_F, tkR_F⟩
        rw [show c + 1 - 1 = c by omega, tkC_6]
      · have hk := m3.resolve_left q
        obtain ⟨e, s, t, a, e1, e2, -, s19, ee, ea, R⟩ := tok_T hb hC hN (show 0 ≤ x + (m : Int) by omega) (by omega) hk i1 (by omega)
        obtain ⟨b, d', hq, R⟩ := R N2 w hR hN i2
        obtain ⟨t1, t2, t3, t4⟩ := TI_s (y := x + m) hI c0 (by omega) (by omega) hq
        rw [if_pos (by omega), ee, bd_s]
        try dsimp only
        rw [ea, bd_s, R]
        try dsimp only [Int.reduceAdd]
        have ew : wr_ (tkC_ v c s (x + m) a 4 4 - 1) = c := by rw [tkC_4, wr_id (by omega)]; omega
        rw [ck_t (show 0 ≤ wr_ (tkC_ v c s (x + m) a 4 4 - 1) ∧ wr_ (tkC_ v c s (x + m) a 4 4 - 1) < 402 by rw [ew]; omega)]
        have e6 : tkC_ v c s (x + m) a 6 (wr_ (tkC_ v c s (x + m) a 4 4 - 1)) = s := by rw [ew, tkC_6]
        by_cases s20 : s = 20
        · obtain ⟨N1, rfl⟩ : ∃ m, N1 = m + 1 := ⟨N1 - 1, by omega⟩
          rw [if_pos (e6.trans s20), fX9_scan_89, lt_d, fX9_scan_13, if_pos rfl]
          obtain ⟨u', f1, f2, f3⟩ := rest_T (v := v) (c := c + 1) hb hN (by omega) (n - e).toNat e (tkR_ w c t (x + m) b d') N2 rfl (by omega) e2 (tkR_B hR) (tkR_N hN) (by rw [tkR_10]; omega) (by rw [tkR_10]; omega) (by rw [tkR_10]; omega) (by omega)
          refine ⟨c + 1, _, u', rfl, f1, ⟨by omega, tkC_4, fun k k0 k1 => ?_, fun k k0 k1 => t2 k k0 (by omega), fun j k j0 jk k1 => ?_, Or.inr (Or.inr ?_)⟩, tkC_F, Ft2_tr tkR_F f2⟩
          · exact TE_n (t1 k k0 k1) (fun _ _ _ => rfl) (fun h h0 h1 => f3 h k k1 (by omega))
          · rw [f3 818 j (by omega) (by decide), f3 818 k k1 (by decide)]
            exact t3 j k j0 jk k1
          · rw [show c + 1 - 1 = c by omega, tkC_6, s20]
        · rw [if_neg (fun q => s20 (e6.symm.trans q)), fX9_scan_89, wr_id (by omega), lt_d]
          have tt : ∀ k, 0 ≤ k → k < c + 1 → TE_ (tkC_ v c s (x + m) a) (tkR_ w c t (x + m) b d') k ∧ tkC_ v c s (x + m) a 6 k ≠ 19 ∧ tkC_ v c s (x + m) a 6 k ≠ 20 ∧ tkR_ w c t (x + m) b d' 818 k < e := fun k k0 k1 => by
            refine ⟨t1 k k0 k1, ?_, ?_, by have := t4 k k0 k1; omega⟩
            · by_cases q2 : k = c
              · rw [q2, tkC_6]; exact s19
              · exact (t2 k k0 (by omega)).1
            · by_cases q2 : k = c
              · rw [q2, tkC_6]; exact s20
              · exact (t2 k k0 (by omega)).2
          obtain ⟨M, v', w', f1, f2, f3, f4, f5⟩ := ih (n - e).toNat (by omega) e (c + 1) (tkC_ v c s (x + m) a) (tkR_ w c t (x + m) b d') N1 N2 rfl (by omega) e2 (by omega) (by omega) (tkC_B hC) (tkR_B hR) (tkR_N (tkC_N hN)) ⟨tkC_4, tkR_10, tt, t3⟩ (by omega) (by omega)
          exact ⟨M, v', w', f1, f2, f3, Ft1_tr tkC_F f4, Ft2_tr tkR_F f5⟩
end SCAN
