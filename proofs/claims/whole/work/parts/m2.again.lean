/-! layer 2: read -/
theorem D_fh {v w g : V_} (h : D_ v g) (h0 : w 814 18 = v 814 18) (h1 : ∀ a k, 823 ≤ a → a ≤ 835 → ¬ hf_ (1 - v 814 18) a k → w a k = v a k) (h2 : ∀ k, 14 ≤ k → k < 47 → w 838 k = v 838 k) : D_ w g := by
  obtain ⟨d0, d1, d2, d3, d4, d5⟩ := h
  unfold D_
  rw [h0]
  unfold hf_ at h1
  refine ⟨d0, ?_, fun k k0 k1 => ?_, fun k k0 k1 => ?_, fun k k0 k1 => ?_, fun k q1 q2 => ?_⟩
  · rw [h1 _ _ (by decide) (by decide) (by omega)]; exact d1
  · rw [h1 826 _ (by decide) (by decide) (by omega), h1 832 _ (by decide) (by decide) (by omega), h1 833 _ (by decide) (by decide) (by omega), h1 834 _ (by decide) (by decide) (by omega)]; exact d2 k k0 k1
  · rw [h1 827 _ (by decide) (by decide) (by omega), h1 828 _ (by decide) (by decide) (by omega), h1 829 _ (by decide) (by decide) (by omega), h1 830 _ (by decide) (by decide) (by omega), h1 831 _ (by decide) (by decide) (by omega)]; exact d3 k k0 k1
  · rw [h1 835 _ (by decide) (by decide) (by omega)]; exact d4 k k0 k1
  · rw [h2 _ q1 q2]; exact d5 k q1 q2
theorem C_fp {v w g : V_} {p : Int} (hw : WF_ g) (h : C_ v p g) (h1 : ∀ a k, p ≤ a → a < p + 64 → w a k = v a k) (h2 : ∀ k, 14 ≤ k → k < 47 → w 141 k = v 141 k) : C_ w p g := by
  have := CP_fr hw (CP_of h) (fun a k q q2 _ => h1 a k q q2)
  exact ⟨this.1, this.2.1, this.2.2, fun k k0 k1 => by rw [h2 k k0 k1]; exact h.2.2.2 k k0 k1⟩
/-- a text that fails leaves program and runs as they were -/
theorem CX_h {g vc vr wc wr : V_} {p : Int} (h : CX_ g p vc vr) (f1 : ∀ a k, (p ≤ a ∧ a < p + 64) ∨ a = 141 ∨ (189 ≤ a ∧ a < 814) → wc a k = vc a k) (f2 : ∀ k, k = 4 ∨ (11 ≤ k ∧ k ≤ 13) → wc 1 k = vc 1 k) (f3 : ∀ a k, 823 ≤ a → a ≤ 863 → a ≠ 836 → ¬ hf_ (1 - vr 814 18) a k → wr a k = vr a k) (f4 : ∀ k, k = 18 ∨ k = 52 ∨ k = 69 → wr 814 k = vr 814 k) : CX_ g p wc wr := by
  obtain ⟨hw, hg, hC, hp, hF, hD, hr, h11, h69, h12, h13⟩ := h
  have hpb := hC.1
  have C' : C_ wc p g := C_fp hw hC (fun a k q q2 => f1 a k (Or.inl ⟨q, q2⟩)) (fun k _ _ => f1 _ _ (by omega))
  have e11 : wc 1 11 = vc 1 11 := f2 _ (by omega)
  have e18 : cp_ vr 837 0 838 0 47 814 18 = vr 814 18 := cp_o (by omega)
  have hi : ∀ a k, 837 ≤ a → a ≤ 863 → wr a k = vr a k := fun a k q q2 => f3 a k (by omega) q2 (by omega) (by unfold hf_; omega)
  refine ⟨hw, hg, C', ?_, ?_, D_fh hD ?_ (fun a k q q2 q3 => ?_) (fun k k0 k1 => ?_), fun k k0 k1 => ?_, ?_, ?_, ?_, ?_⟩
  · rw [f2 _ (by omega)]; exact hp
  · have e : wc (p + 5) = vc (p + 5) := funext fun k => f1 _ _ (by omega)
    rw [e]
    exact hF
  · rw [cp_o (by omega), cp_o (by omega)]; exact f4 _ (by omega)
  · rw [e18] at q3
    rw [cp_o (by omega), cp_o (by omega)]; exact f3 _ _ (by omega) (by omega) (by omega) q3
  · rw [cp38 _ (by omega) k1, cp38 _ (by omega) k1]; exact hi _ _ (by omega) (by omega)
  · rw [hi _ _ (by omega) (by omega), f1 _ _ (by omega)]; exact hr k k0 k1
  · rw [e11]
    rcases h11 with q | ⟨q, q2⟩
    · exact Or.inl q
    · exact Or.inr ⟨q, Kpl_fr hw hC q2 (fun a k _ _ _ => f1 a k (by omega)) (fun k => f1 _ _ (by omega))⟩
  · rw [e11, f4 69 (by omega)]
    rcases h69 with q | ⟨q, hD0, q2⟩
    · exact Or.inl q
    · have hD1 : D_ wr g := D_fh hD0 (f4 _ (by omega)) (fun a k q q2 q3 => f3 _ _ (by omega) (by omega) (by omega) q3) (fun k _ _ => hi _ _ (by omega) (by omega))
      refine Or.inr ⟨q, hD1, ?_⟩
      rcases q2 with ⟨y, y2⟩ | ⟨y, y2⟩
      · exact Or.inl ⟨y, PL_fr hw hC hD0 hD1 y2 (fun a k _ _ _ => f1 a k (by omega)) (fun k => f1 _ _ (by omega)) (fun a k _ _ => hi _ _ (by omega) (by omega)) (f4 _ (by omega))⟩
      · exact Or.inr ⟨y, Krl_fr hw hD0 hD1 y2 (fun a k _ _ => hi _ _ (by omega) (by omega)) (f4 _ (by omega))⟩
  · rw [f2 12 (by omega)]
    rcases h12 with q | ⟨q, q2⟩
    · exact Or.inl q
    · exact Or.inr ⟨q, Ksl_fr q2 (fun k _ _ => f1 _ _ (by omega)) (fun a k _ _ => f1 _ _ (by omega))⟩
  · rw [f2 13 (by omega), e11]
    rcases h13 with q | ⟨q, q2, q3⟩
    · exact Or.inl q
    · exact Or.inr ⟨q, q2, Kfa_fr hw C' q3 (fun k _ _ => f1 _ _ (by omega)) (fun a k _ _ => f1 _ _ (by omega)) (fun a k _ _ _ => f1 _ _ (by omega)) (fun k => f1 _ _ (by omega))⟩
section READ2
variable {p i : Int} {v w : V_}
/-- the class begins anew -/
def bg_ (v : V_) (p : Int) : V_ := up_ (cp_ (cp_ (fl_ v 141 47 0) (p + 6) 0 141 38 4) (p + 7) 0 141 42 4) 141 46 1
theorem bg_o {a k : Int} (h : a ≠ 141) : bg_ v p a k = v a k := by
  unfold bg_
  rw [up_n (by omega), cp_o (by omega), cp_o (by omega)]
  unfold fl_
  rw [if_neg (by omega)]
theorem bg_i (hp : p = 12 ∨ p = 76) : bg_ v p 141 46 = 1 ∧ (∀ k, 0 ≤ k → k < 38 → bg_ v p 141 k = 0) ∧ ∀ t, 0 ≤ t → t < 4 → bg_ v p 141 (38 + t) = v (p + 6) t ∧ bg_ v p 141 (42 + t) = v (p + 7) t := by
  unfold bg_
  refine ⟨up_s ⟨rfl, rfl⟩, fun k k0 k1 => ?_, fun t t0 t1 => ⟨?_, ?_⟩⟩
  · rw [up_n (by omega), cp_o (by omega), cp_o (by omega)]
    unfold fl_
    rw [if_pos (by omega)]
  · rw [up_n (by omega), cp_o (by omega), cp_i (by omega)]
    unfold fl_
    rw [if_neg (by omega)]
    congr 1
    omega
  · rw [up_n (by omega), cp_i (by omega), cp_o (by omega)]
    unfold fl_
    rw [if_neg (by omega)]
    congr 1
    omega
theorem begin_e (hp : p = 12 ∨ p = 76) : fX7_begin 140 p v = some (0, bg_ v p) := rfl
theorem forget3_e : fX0_forgetHeld 142 v = some (0, zf_ v 188 0 3) := by
  unfold fX0_forgetHeld
  refine (lp_z (F := fun n i v => fX0_forgetHeld_2 n 142 i v) (K := fun v => some (0, v)) (a := 188) (lo := 0) (e := 3) (fun n i v h0 h1 => ?_) (fun n v => ?_) 3 fu_ 0 v (by decide) (by decide) (by decide)).trans rfl
  · show fX0_forgetHeld_2 (n + 1) 142 i v = _
    rw [fX0_forgetHeld_2, if_neg (by omega), ck_t (by omega), lt_d, lt_d, wr_id (by omega)]
    rfl
  · show fX0_forgetHeld_2 (n + 1) 142 3 v = _
    rw [fX0_forgetHeld_2, if_pos (by decide)]
theorem held3_e : fX12_read_284 fu_ 814 0 v = some (0, zf_ v 871 0 3) := by
  refine (lp_z (F := fun n i v => fX12_read_284 n 814 i v) (K := fun v => some (0, v)) (a := 871) (lo := 0) (e := 3) (fun n i v h0 h1 => ?_) (fun n v => ?_) 3 fu_ 0 v (by decide) (by decide) (by decide)).trans rfl
  · show fX12_read_284 (n + 1) 814 i v = _
    rw [fX12_read_284, if_neg (by omega), ck_t (by omega), lt_d, lt_d, wr_id (by omega)]
    rfl
  · show fX12_read_284 (n + 1) 814 3 v = _
    rw [fX12_read_284, if_pos (by decide)]
/-- the reference begins anew -/
theorem begins_T (hi : w 814 18 = i ∧ (i = 0 ∨ i = 1)) : ∃ u, fX12_begins 814 w = some (0, u) ∧ (∀ a k, a ≠ 838 → u a k = w a k) ∧ (∀ k, 0 ≤ k → k < 38 → u 838 k = 0) ∧ u 838 38 = 1 ∧ ∀ t, 0 ≤ t → t < 4 → u 838 (39 + t) = w 824 (4 * i + t) ∧ u 838 (43 + t) = w 825 (4 * i + t) := by
  unfold fX12_begins
  have A : fX12_begins_2 fu_ 814 0 w = (lt_ (up_ (zf_ w 838 0 47) 838 38 1) fun v3 => fX12_begins_31 fu_ 814 0 v3) := by
    refine (lp_z (F := fun n i v => fX12_begins_2 n 814 i v) (K := fun v => lt_ (up_ v 838 38 1) fun v3 => fX12_begins_31 fu_ 814 0 v3) (a := 838) (lo := 0) (e := 47) (fun n i v h0 h1 => ?_) (fun n v => ?_) 47 fu_ 0 w (by decide) (by decide) (by decide)).trans rfl
    · show fX12_begins_2 (n + 1) 814 i v = _
      rw [fX12_begins_2, if_neg (by omega), ck_t (by omega), lt_d, lt_d, wr_id (by omega)]
      rfl
    · show fX12_begins_2 (n + 1) 814 47 v = _
      rw [fX12_begins_2, if_pos (by decide)]
      rfl
  rw [A, lt_d]
  obtain ⟨u, e, -, e2, e3, e4, e5⟩ := lp_s (σ := V_) (α := Option (Int × V_)) (F := fun N t s => fX12_begins_31 N 814 t s) (K := fun u => some (0, u)) (I := fun t s => 0 ≤ t ∧ (∀ a k, a ≠ 838 → s a k = w a k) ∧ (∀ k, 0 ≤ k → k < 38 → s 838 k = 0) ∧ s 838 38 = 1 ∧ ∀ j, 0 ≤ j → j < t → s 838 (39 + j) = w 824 (4 * i + j) ∧ s 838 (43 + j) = w 825 (4 * i + j)) (e := 4) (fun N t s hI t4 => by
    obtain ⟨t0, f, f2, f3, g⟩ := hI
    refine ⟨up_ (up_ s 838 (39 + t) (w 824 (4 * i + t))) 838 (43 + t) (w 825 (4 * i + t)), ?_, by omega, fun a k q => ?_, fun k k0 k1 => ?_, ?_, fun j j0 j1 => ?_⟩
    · try dsimp only
      have e18 : s 814 18 = i := by rw [f _ _ (by decide)]; exact hi.1
      have e18' : ∀ x, up_ s (814 + 24) (39 + t) x 814 18 = i := fun x => by rw [up_n (by omega)]; exact e18
      have W : wr_ (wr_ (4 * i) + t) = 4 * i + t := by rw [wr_id (x := 4 * i) (by omega), wr_id (by omega)]
      rw [fX12_begins_31, if_neg (by omega), ck_t (by rw [e18, W]; omega), wr_id (x := 39 + t) (by omega), wr_id (x := 43 + t) (by omega), wr_id (x := t + 1) (by omega), ck_t (by omega), e18, W, lt_d, ck_t (by rw [e18', W]; omega), ck_t (by omega), e18', W, lt_d, lt_d, show (814 : Int) + 24 = 838 from rfl, show (814 : Int) + 10 = 824 from rfl, show (814 : Int) + 11 = 825 from rfl, up_n (by omega), f 824 _ (by decide), f 825 _ (by decide)]
    · rw [up_n (by omega), up_n (by omega)]; exact f a k q
    · rw [up_n (by omega), up_n (by omega)]; exact f2 k k0 k1
    · rw [up_n (by omega), up_n (by omega)]; exact f3
    · by_cases c : j = t
      · rw [c, up_n (by omega), up_s ⟨rfl, rfl⟩, up_s ⟨rfl, rfl⟩]; exact ⟨rfl, rfl⟩
      · rw [up_n (by omega), up_n (by omega), up_n (by omega), up_n (by omega)]; exact g j j0 (by omega)) (fun N s hI => by
    try dsimp only
    rw [fX12_begins_31, if_pos (by decide)]) 4 fu_ 0 (up_ (zf_ w 838 0 47) 838 38 1) ⟨by decide, fun a k q => by rw [up_n (by omega), zf_o (by omega)], fun k k0 k1 => by rw [up_n (by omega), zf_i (by omega)], up_s ⟨rfl, rfl⟩, fun j j0 j1 => by omega⟩ (by decide) (by unfold fu_; omega)
  exact ⟨u, e, e2, e3, e4, e5⟩
end READ2
