/-! layer 2: loops by an invariant -/
theorem lp_s {σ α : Type} {F : Nat → Int → σ → α} {K : σ → α} {I : Int → σ → Prop} {e : Int} (hF : ∀ n i s, I i s → i < e → ∃ t, F (n + 1) i s = F n (i + 1) t ∧ I (i + 1) t) (hE : ∀ n s, I e s → F (n + 1) e s = K s) : ∀ (d n : Nat) (i : Int) (s : σ), I i s → e = i + d → d < n → ∃ t, F n i s = K t ∧ I e t := by
  intro d
  induction d with
  | zero =>
    intro n i s h he hn
    obtain ⟨n, rfl⟩ : ∃ m, n = m + 1 := ⟨n - 1, by omega⟩
    have e1 : i = e := by omega
    subst e1
    exact ⟨s, hE n s h, h⟩
  | succ d ih =>
    intro n i s h he hn
    obtain ⟨n, rfl⟩ : ∃ m, n = m + 1 := ⟨n - 1, by omega⟩
    obtain ⟨t, e1, h1⟩ := hF n i s h (by omega)
    obtain ⟨u, e2, h2⟩ := ih n (i + 1) t h1 (by omega) (by omega)
    exact ⟨u, e1.trans e2, h2⟩
theorem lp_x {σ α : Type} {F : Nat → Int → σ → α} {K : σ → α} {I : Int → σ → Prop} {Q : α → Prop} {e : Int} (hF : ∀ n i s, I i s → i < e → (∃ t, F (n + 1) i s = F n (i + 1) t ∧ I (i + 1) t) ∨ Q (F (n + 1) i s)) (hE : ∀ n s, I e s → F (n + 1) e s = K s) : ∀ (d n : Nat) (i : Int) (s : σ), I i s → e = i + d → d < n → (∃ t, F n i s = K t ∧ I e t) ∨ Q (F n i s) := by
  intro d
  induction d with
  | zero =>
    intro n i s h he hn
    obtain ⟨n, rfl⟩ : ∃ m, n = m + 1 := ⟨n - 1, by omega⟩
    have e1 : i = e := by omega
    subst e1
    exact Or.inl ⟨s, hE n s h, h⟩
  | succ d ih =>
    intro n i s h he hn
    obtain ⟨n, rfl⟩ : ∃ m, n = m + 1 := ⟨n - 1, by omega⟩
    rcases hF n i s h (by omega) with ⟨t, e1, h1⟩ | q
    · rw [e1]
      exact ih n (i + 1) t h1 (by omega) (by omega)
    · exact Or.inr q
/-- descending -/
theorem lp_d {σ α : Type} {F : Nat → Int → σ → α} {K : σ → α} {I : Int → σ → Prop} {e : Int} (hF : ∀ n i s, I i s → e < i → ∃ t, F (n + 1) i s = F n (i - 1) t ∧ I (i - 1) t) (hE : ∀ n s, I e s → F (n + 1) e s = K s) : ∀ (d n : Nat) (i : Int) (s : σ), I i s → i = e + d → d < n → ∃ t, F n i s = K t ∧ I e t := by
  intro d
  induction d with
  | zero =>
    intro n i s h he hn
    obtain ⟨n, rfl⟩ : ∃ m, n = m + 1 := ⟨n - 1, by omega⟩
    have e1 : i = e := by omega
    subst e1
    exact ⟨s, hE n s h, h⟩
  | succ d ih =>
    intro n i s h he hn
    obtain ⟨n, rfl⟩ : ∃ m, n = m + 1 := ⟨n - 1, by omega⟩
    obtain ⟨t, e1, h1⟩ := hF n i s h (by omega)
    obtain ⟨u, e2, h2⟩ := ih n (i - 1) t h1 (by omega) (by omega)
    exact ⟨u, e1.trans e2, h2⟩
/-! layer 2: the slow run -/
theorem alone_T {x0 p b : Int} {g vc vr : V_} (hx : x0 = 800 ∨ x0 = 807) (hw : WF_ g) (hb : 0 ≤ b ∧ b < g 0 0) (hC : C_ vc p g) (hD : D_ vr g) (hR : RC_ vc x0 vr) (hc : vc x0 5 = vr 814 45) (h9 : vc x0 9 = b) :
    ∃ vc' vr', Fa_ x0 vc vc' ∧ Fb_ vr vr' ∧ vc' x0 5 = vr' 814 45 ∧ vc' x0 6 = wr_ (vc x0 6 + 1) ∧ vr' 814 46 = vr 814 46 ∧ (∀ k, vc' x0 k = vc x0 k ∨ k = 4 ∨ k = 5 ∨ k = 6 ∨ k = 9) ∧ (∀ k, vc' (x0 + 3) k = (if k = b then wr_ (vc (x0 + 3) b + 1) else vc (x0 + 3) k) ∧ vr' 841 k = vr 841 k) ∧ (∀ k, vr' 842 k = vr 842 k ∨ vr' 842 k = wr_ (vr 842 k + 1)) ∧ ((∀ k, 0 ≤ k → k < 16 → vc (x0 + 4) k = vr 842 k) → ∀ k, 0 ≤ k → k < 16 → vc' (x0 + 4) k = vr' 842 k) ∧ fX6_goAlone x0 p 140 vc = some (0, vc') ∧
    ((fX12_linesDone 814 b vr = some (0, vr') ∧ vc' x0 4 = 1 ∧ vc' x0 9 = -1) ∨ (∃ vr2 nx, fX12_linesDone 814 b vr = some (1, vr2) ∧ fX12_endDone 814 b vr2 = some (nx, vr') ∧ NX_ (g 0 0) (vc' x0 9) nx ∧ RC_ vc' x0 vr' ∧ vc' x0 4 = vc x0 4)) := by
  have hn := hw.1
  obtain ⟨hl, -, -⟩ := hw.2 b hb.1 hb.2
  unfold fX6_goAlone fX12_linesDone
  rw [h9, lt_d, lt_d, ck_t (by omega), ck_t (by omega), lt_d, up_n (show ¬ (x0 + 3 = x0 ∧ b = 6) by omega)]
  generalize ez : wr_ (vc x0 6 + 1) = z
  generalize ey : wr_ (vc (x0 + 3) b + 1) = y
  have f1 : ∀ q k, ¬ (q = x0 ∧ k = 6) → ¬ (q = x0 + 3 ∧ k = b) → up_ (up_ vc x0 6 z) (x0 + 3) b y q k = vc q k := fun q k h h2 => by rw [up_n h2, up_n h]
  have f2 : up_ (up_ vc x0 6 z) (x0 + 3) b y x0 6 = z := by rw [up_n (by omega), up_s ⟨rfl, rfl⟩]
  have f3 : up_ (up_ vc x0 6 z) (x0 + 3) b y (x0 + 3) b = y := up_s ⟨rfl, rfl⟩
  generalize up_ (up_ vc x0 6 z) (x0 + 3) b y = v1 at f1 f2 f3 ⊢
  have hC1 : C_ v1 p g := C_fr hw hC (fun a k a0 a1 => f1 _ _ (by omega) (by omega)) (fun k _ _ => f1 _ _ (by omega) (by omega))
  have hR1 : RC_ v1 x0 vr := RC_fr hR (fun k => f1 _ _ (by omega) (by omega)) (fun k => f1 _ _ (by omega) (by omega)) (fun _ => rfl) (fun _ => rfl)
  have f4 : ∀ k, v1 (x0 + 3) k = if k = b then y else vc (x0 + 3) k := fun k => by
    by_cases c : k = b
    · rw [if_pos c, c, f3]
    · rw [if_neg c, f1 _ _ (by omega) (by omega)]
  obtain ⟨vc', vr', q1, q2, q3, q4, q5, q6, q7, q8, q9⟩ := lines_T hx hw hb (g 1 b).toNat fu_ fu_ 0 v1 vr hC1 hD hR1 ((f1 _ _ (by omega) (by omega)).trans hc) (by decide) (by omega) (by unfold fu_; omega) (by unfold fu_; omega)
  rcases q9 with ⟨q9, q10, q11, q12⟩ | ⟨n', q9, q10, q11, q12⟩
  · refine ⟨vc', vr', fun a k h => (q1 a k h).trans (f1 _ _ (by omega) (by omega)), q2, q3, q4.trans f2, q5, fun k => ?_, fun k => ⟨(q7 k).1.trans (f4 k), (q8 k).1⟩, fun k => Or.inl (q8 k).2, fun hh k k0 k1 => ?_, q9, Or.inl ⟨q10, q11, q12⟩⟩
    · by_cases c : k = 4 ∨ k = 5 ∨ k = 6 ∨ k = 9
      · exact Or.inr c
      · left
        rw [← f1 x0 k (by omega) (by omega)]
        rcases q6 k with q | q
        · exact q
        · omega
    · rw [(q7 k).2, f1 _ _ (by omega) (by omega), (q8 k).2]
      exact hh k k0 k1
  · have hC2 : C_ vc' p g := C_fr hw hC1 (fun a k a0 a1 => q1 _ _ (by omega)) (fun k _ _ => q1 _ _ (by omega))
    have hD2 : D_ vr' g := D_fr hD (q2 _ _ (by omega) (by omega)) (fun a k a0 a1 => q2 _ _ (by omega) (by omega)) (fun k _ _ => q2 _ _ (by omega) (by omega))
    obtain ⟨wc, wr, nx, s1, s2, s3, s4, s5, s6, s7, s8, s9, s10, s11, s13, s12⟩ := end_T hx hw hb hC2 hD2 q11 q3 n'
    refine ⟨wc, wr, fun a k h => (s4 a k h).trans ((q1 a k h).trans (f1 _ _ (by omega) (by omega))), fun a k h h2 => (s5 a k h h2).trans (q2 a k h h2), s7, s8.trans (q4.trans f2), s9.trans q5, fun k => ?_, fun k => ⟨(s11 k).1.trans ((q7 k).1.trans (f4 k)), (s11 k).2.trans (q8 k).1⟩, fun k => ?_, fun hh => s12 fun k k0 k1 => ?_, q9.trans s1, Or.inr ⟨vr', nx, q10, s2, s3, s6, ?_⟩⟩
    · by_cases c : k = 4 ∨ k = 5 ∨ k = 6 ∨ k = 9
      · exact Or.inr c
      · left
        rw [← f1 x0 k (by omega) (by omega)]
        rcases s10 k with q | q
        · rcases q6 k with q' | q'
          · exact q.trans q'
          · omega
        · omega
    · rw [← (q8 k).2]
      exact s13 k
    · rw [(q7 k).2, f1 _ _ (by omega) (by omega), (q8 k).2]
      exact hh k k0 k1
    · rcases s10 4 with q | q
      · rw [q, q12, f1 _ _ (by omega) (by omega)]
      · omega
/-- how a slow run comes out, in both -/
def SO_ (vc : V_) (x0 : Int) (vr : V_) (how : Int) : Prop := vc x0 4 = how ∧ (how = 0 ∨ how = 1 ∨ how = 2) ∧ vc x0 5 = vr 814 45 ∧ vc x0 6 = vr 814 46 ∧ (∀ k, 0 ≤ k → k < 8 → vc (x0 + 3) k = vr 841 k ∧ 0 ≤ vr 841 k ∧ vr 841 k ≤ 200) ∧ (∀ k, 0 ≤ k → k < 16 → vc (x0 + 4) k = vr 842 k ∧ 0 ≤ vr 842 k ∧ vr 842 k ≤ 200) ∧ (how = 0 → RC_ vc x0 vr)
theorem slow_loop {x0 p : Int} {g : V_} (hx : x0 = 800 ∨ x0 = 807) (hw : WF_ g) : ∀ (d n m : Nat) (i b : Int) (vc vr : V_), C_ vc p g → D_ vr g → RC_ vc x0 vr → vc x0 5 = vr 814 45 → vc x0 6 = i → vr 814 46 = i → vc x0 4 = 0 → NX_ (g 0 0) (vc x0 9) b → (∀ k, 0 ≤ k → k < 8 → vc (x0 + 3) k = vr 841 k ∧ 0 ≤ vr 841 k ∧ vr 841 k ≤ i) → (∀ k, 0 ≤ k → k < 16 → vc (x0 + 4) k = vr 842 k ∧ 0 ≤ vr 842 k ∧ vr 842 k ≤ i) → 0 ≤ i → 200 = i + d → d + 1 < n → d + 1 < m →
    ∃ vc' vr' how, fX6_goSlow_8 n x0 p 140 i vc = some (0, vc') ∧ fX12_runsSlow_23 m 814 b vr = some (how, vr') ∧ SO_ vc' x0 vr' how ∧ Fa_ x0 vc vc' ∧ Fb_ vr vr' := by
  intro d
  have hn := hw.1
  induction d with
  | zero =>
    intro n m i b vc vr hC hD hR h5 h6 h46 h4 hN hk hg h0 hd hn0 hm0
    obtain ⟨n, rfl⟩ : ∃ k, n = k + 1 := ⟨n - 1, by omega⟩
    obtain ⟨m, rfl⟩ : ∃ k, m = k + 1 := ⟨m - 1, by omega⟩
    rw [fX6_goSlow_8, if_pos (by omega), fX12_runsSlow_23]
    unfold fX6_endIfTooLong
    have hi : i = 200 := by omega
    rcases hN with ⟨q1, q2, -⟩ | ⟨q1, q2, q3⟩
    · rw [if_pos q1, bd_s, if_pos q2]
      exact ⟨vc, vr, 0, rfl, rfl, ⟨h4, Or.inl rfl, h5, h6.trans h46.symm, fun k a b => (by rw [← hi]; exact hk k a b), fun k a b => (by rw [← hi]; exact hg k a b), fun _ => hR⟩, fun _ _ _ => rfl, fun _ _ _ _ => rfl⟩
    · rw [if_neg (by omega), lt_d, bd_s, if_neg (by omega), if_pos (by omega)]
      dsimp only
      refine ⟨_, vr, 2, rfl, rfl, ⟨up_s ⟨rfl, rfl⟩, Or.inr (Or.inr rfl), ?_, ?_, fun k k0 k1 => ?_, fun k k0 k1 => ?_, fun q => absurd q (by decide)⟩, fun a k h => up_n (by omega), fun _ _ _ _ => rfl⟩
      · rw [up_n (by omega)]; exact h5
      · rw [up_n (by omega)]; exact h6.trans h46.symm
      · rw [up_n (by omega), ← hi]; exact hk k k0 k1
      · rw [up_n (by omega), ← hi]; exact hg k k0 k1
  | succ d ih =>
    intro n m i b vc vr hC hD hR h5 h6 h46 h4 hN hk hg h0 hd hn0 hm0
    obtain ⟨n, rfl⟩ : ∃ k, n = k + 1 := ⟨n - 1, by omega⟩
    obtain ⟨m, rfl⟩ : ∃ k, m = k + 1 := ⟨m - 1, by omega⟩
    rw [fX6_goSlow_8, if_neg (by omega), fX12_runsSlow_23]
    have wk : ∀ x : Int, x ≤ i → x ≤ 200 := fun x h => by omega
    rcases hN with ⟨q1, q2, -⟩ | ⟨q1, q2, q3⟩
    · unfold fX6_endIfTooLong
      rw [if_pos q1, if_pos q1, bd_s, if_pos q2]
      exact ⟨vc, vr, 0, rfl, rfl, ⟨h4, Or.inl rfl, h5, h6.trans h46.symm, fun k a b => ⟨(hk k a b).1, (hk k a b).2.1, wk _ (hk k a b).2.2⟩, fun k a b => ⟨(hg k a b).1, (hg k a b).2.1, wk _ (hg k a b).2.2⟩, fun _ => hR⟩, fun _ _ _ => rfl, fun _ _ _ _ => rfl⟩
    · rw [if_neg (by omega), if_neg (by omega), if_neg (by omega), lt_d, ck_t (by omega), ck_t (by omega), lt_d, h46, wr_id (show -2147483648 ≤ i + 1 ∧ i + 1 < 2147483648 by omega)]
      dsimp only [Int.reduceAdd]
      have hkb := hk b (by omega) (by omega)
      have ey : wr_ (up_ vr 814 46 (i + 1) 841 b + 1) = vr 841 b + 1 := by rw [up_n (by omega), wr_id (by omega)]
      rw [ey]
      have r1 : ∀ q k, ¬ (q = 814 ∧ k = 46) → ¬ (q = 841 ∧ k = b) → up_ (up_ vr 814 46 (i + 1)) 841 b (vr 841 b + 1) q k = vr q k := fun q k h h2 => by rw [up_n h2, up_n h]
      have r2 : up_ (up_ vr 814 46 (i + 1)) 841 b (vr 841 b + 1) 814 46 = i + 1 := by rw [up_n (by omega), up_s ⟨rfl, rfl⟩]
      have r3 : up_ (up_ vr 814 46 (i + 1)) 841 b (vr 841 b + 1) 841 b = vr 841 b + 1 := up_s ⟨rfl, rfl⟩
      generalize up_ (up_ vr 814 46 (i + 1)) 841 b (vr 841 b + 1) = wr at r1 r2 r3 ⊢
      have hD1 : D_ wr g := D_fr hD (r1 _ _ (by omega) (by omega)) (fun a k a0 a1 => r1 _ _ (by omega) (by omega)) (fun k _ _ => r1 _ _ (by omega) (by omega))
      have hR1 : RC_ vc x0 wr := RC_fr hR (fun _ => rfl) (fun _ => rfl) (fun k => r1 _ _ (by omega) (by omega)) (fun k => r1 _ _ (by omega) (by omega))
      obtain ⟨vc', vr', s1, s2, s3, s4, s5, s6, s7, s8, s9, s10, s11⟩ := alone_T hx hw ⟨by omega, by omega⟩ hC hD1 hR1 (h5.trans (r1 _ _ (by omega) (by omega)).symm) q3
      rw [s10, bd_s]
      dsimp only
      have hkk : ∀ k, 0 ≤ k → k < 8 → vc' (x0 + 3) k = vr' 841 k ∧ 0 ≤ vr' 841 k ∧ vr' 841 k ≤ i + 1 := fun k k0 k1 => by
        have := hk k k0 k1
        rw [(s7 k).1, (s7 k).2]
        by_cases c : k = b
        · rw [if_pos c, c, r3, hkb.1, wr_id (by omega)]
          omega
        · rw [if_neg c, r1 _ _ (by omega) (by omega)]
          omega
      have hgg : ∀ k, 0 ≤ k → k < 16 → vc' (x0 + 4) k = vr' 842 k ∧ 0 ≤ vr' 842 k ∧ vr' 842 k ≤ i + 1 := fun k k0 k1 => by
        have := hg k k0 k1
        have e := r1 842 k (by omega) (by omega)
        refine ⟨s9 (fun k k0 k1 => by rw [r1 842 k (by omega) (by omega)]; exact (hg k k0 k1).1) k k0 k1, ?_⟩
        rcases s8 k with q | q
        · rw [q, e]; omega
        · rw [q, e, wr_id (by omega)]; omega
      have e6 : vc' x0 6 = i + 1 := by rw [s4, h6, wr_id (by omega)]
      have e46 : vr' 814 46 = i + 1 := s5.trans r2
      rcases s11 with ⟨t1, t2, t3⟩ | ⟨vr2, nx, t1, t2, t3, t4, t5⟩
      · rw [t1, bd_s, if_pos rfl]
        obtain ⟨n, rfl⟩ : ∃ k, n = k + 1 := ⟨n - 1, by omega⟩
        have e : fX6_goSlow_8 (n + 1) x0 p 140 (i + 1) vc' = some (0, vc') := by
          unfold fX6_goSlow_8 fX6_endIfTooLong
          rw [if_pos t3, bd_s]
          split <;> rfl
        refine ⟨vc', vr', 1, by rw [lt_d]; exact e, rfl, ⟨t2, Or.inr (Or.inl rfl), s3, e6.trans e46.symm, fun k k0 k1 => ?_, fun k k0 k1 => ?_, fun q => absurd q (by decide)⟩, s1, fun a k h h2 => (s2 a k h h2).trans (r1 _ _ (by omega) (by omega))⟩
        · have := hkk k k0 k1; omega
        · have := hgg k k0 k1; omega
      · rw [t1, bd_s, if_neg n10_, t2, bd_s, lt_d]
        obtain ⟨wc, wr2, how, u1, u2, u3, u4, u5⟩ := ih n m (i + 1) nx vc' vr' (C_fr hw hC (fun a k a0 a1 => s1 _ _ (by omega)) (fun k _ _ => s1 _ _ (by omega))) (D_fr hD1 (s2 _ _ (by omega) (by omega)) (fun a k a0 a1 => s2 _ _ (by omega) (by omega)) (fun k _ _ => s2 _ _ (by omega) (by omega))) t4 s3 e6 e46 (t5.trans h4) t3 hkk hgg (by omega) (by omega) (by omega) (by omega)
        exact ⟨wc, wr2, how, u1, u2, u3, fun a k h => (u4 a k h).trans (s1 a k h), fun a k h h2 => (u5 a k h h2).trans ((s2 a k h h2).trans (r1 _ _ (by omega) (by omega)))⟩
