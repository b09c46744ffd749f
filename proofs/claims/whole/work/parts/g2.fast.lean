/-! layer 2: the fast run, whole -/
/-- what stands while fast runs go -/
def PF_ (g : V_) (L : Int → Int) (p : Int) (vc vr : V_) : Prop := C_ vc p g ∧ D_ vr g ∧ TP_ g vc vr ∧ ∀ s, 0 ≤ s → s < vr 814 52 → ∃ m, PT_ g L s m vc vr
def FO_ (vc vr : V_) (how : Int) : Prop := vc 807 4 = how ∧ (how = 0 ∨ how = 1 ∨ how = 2) ∧ TR_ vc vr ∧ (how = 0 → RC_ vc 807 vr)
theorem Fa_tr {x0 : Int} {u v w : V_} (h : Fa_ x0 u v) (h2 : Fa_ x0 v w) : Fa_ x0 u w := fun a k q => (h2 a k q).trans (h a k q)
theorem Fz_tr {u v w : V_} (h : Fz_ u v) (h2 : Fz_ v w) : Fz_ u w := fun a k q1 q2 q3 => (h2 a k q1 q2 q3).trans (h a k q1 q2 q3)
theorem PF_fr {g vc vr wc wr : V_} {L : Int → Int} {p : Int} (hw : WF_ g) (h : PF_ g L p vc vr) (h1 : Fa_ 807 vc wc) (h2 : Fz_ vr wr) : PF_ g L p wc wr := by
  obtain ⟨hC, hD, hT, hP⟩ := h
  have e52 : wr 814 52 = vr 814 52 := h2 _ _ (by decide) (by decide) (by decide)
  refine ⟨C_fr hw hC (fun a k a0 a1 => h1 _ _ (by omega)) (fun k _ _ => h1 _ _ (by omega)), D_fr hD (h2 _ _ (by omega) (by omega) (by omega)) (fun a k a0 a1 => h2 _ _ (by omega) (by omega) (by omega)) (fun k _ _ => h2 _ _ (by omega) (by omega) (by omega)), TP_fr hT (h1 _ _ (by omega)) (fun a k _ _ => h1 _ _ (by omega)) (fun s k s0 s1 => ⟨h1 _ _ (by omega), h1 _ _ (by omega)⟩) (fun a k _ _ => h2 _ _ (by omega) (by omega) (by omega)) e52, fun s s0 s1 => ?_⟩
  have b := hT.2.1
  rw [e52] at s1
  obtain ⟨m, hm⟩ := hP s s0 s1
  exact ⟨m, PT_g ⟨s0, by omega⟩ hm (fun a k q => h1 _ _ (by omega)) (fun a k q q2 => h2 _ _ (by omega) (by omega) (by omega))⟩
theorem TP_BT {g vc vr : V_} {t : Int} (h : TP_ g vc vr) (t0 : 0 ≤ t) (t1 : t < vr 814 52) : BT_ g t (vr 847 t) vc vr := by
  obtain ⟨a1, a2, -⟩ := h.2.2.2.1 t t0 t1
  refine ⟨a1, a2, rfl, fun i i0 i1 => ?_⟩
  obtain ⟨b1, b2, b3, -, b5, -, -⟩ := (h.2.2.2.1 t t0 t1).2.2 i i0 i1
  exact ⟨b1, ⟨b2, b3⟩, b5⟩
theorem TR_up {vc vr : V_} (x : Int) (h : TR_ vc vr) : TR_ (up_ vc 807 4 x) vr := by
  obtain ⟨t5, t6, t7, t8⟩ := h
  exact ⟨(up_n (by omega)).trans t5, (up_n (by omega)).trans t6, (up_n (by omega)).trans t7, (up_n (by omega)).trans t8⟩
theorem cstop_e {vc : V_} {p i : Int} (n : Nat) (h : vc 807 9 = -1) : fX6_goFast_9 (n + 1) 807 p 140 189 i vc = some (0, vc) := by
  have e : fX6_endIfTooLong 807 vc = some (0, vc) := by
    unfold fX6_endIfTooLong
    rw [if_pos h]
  rw [fX6_goFast_9, e, bd_s, if_pos h]
  split <;> rfl
theorem alone_step {g vc vr : V_} {L : Int → Int} {p b i : Int} (hw : WF_ g) (hb : 0 ≤ b ∧ b < g 0 0) (hF : PF_ g L p vc vr) (hR : RC_ vc 807 vr) (hT : TR_ vc vr) (h4 : vc 807 4 = 0) (h9 : vc 807 9 = b) (h46 : 0 ≤ vr 814 46 ∧ vr 814 46 < 200) (hi : 0 ≤ i ∧ i < 200) (k9 : Int → Int → Int → Int → Int → V_ → Option (Int × V_)) (k33 : Int → Int → V_ → Option (Int × V_)) : ∃ vc' vr', Fa_ 807 vc vc' ∧ Fz_ vr vr' ∧ TR_ vc' vr' ∧ vr' 814 46 = vr 814 46 + 1 ∧ fX6_goFast_76 k9 807 p 140 189 i vc = k9 807 p 140 189 (i + 1) vc' ∧ ((fX12_runsFast_96 k33 814 b vr = some (1, vr') ∧ vc' 807 4 = 1 ∧ vc' 807 9 = -1) ∨ ∃ nx, fX12_runsFast_96 k33 814 b vr = k33 814 nx vr' ∧ NX_ (g 0 0) (vc' 807 9) nx ∧ RC_ vc' 807 vr' ∧ vc' 807 4 = 0) := by
  obtain ⟨hC, hD, -⟩ := hF
  obtain ⟨t5, t6, t7, t8⟩ := hT
  unfold fX6_goFast_76 fX12_runsFast_96
  rw [lt_d, lt_d, lt_d, wr_id (show -2147483648 ≤ vr 814 46 + 1 ∧ vr 814 46 + 1 < 2147483648 by omega), wr_id (show -2147483648 ≤ i + 1 ∧ i + 1 < 2147483648 by omega)]
  have r1 : ∀ a k, ¬ (a = 814 ∧ k = 46) → up_ vr 814 46 (vr 814 46 + 1) a k = vr a k := fun a k h => up_n h
  have r2 : up_ vr 814 46 (vr 814 46 + 1) 814 46 = vr 814 46 + 1 := up_s ⟨rfl, rfl⟩
  generalize up_ vr 814 46 (vr 814 46 + 1) = ur at r1 r2 ⊢
  have hD1 : D_ ur g := D_fr hD (r1 _ _ (by omega)) (fun a k a0 a1 => r1 _ _ (by omega)) (fun k _ _ => r1 _ _ (by omega))
  have hR1 : RC_ vc 807 ur := RC_fr hR (fun _ => rfl) (fun _ => rfl) (fun k => r1 _ _ (by omega)) (fun k => r1 _ _ (by omega))
  obtain ⟨uc, wr, s1, s2, s3, s4, s5, s6, -, -, -, s10, s11⟩ := alone_T (Or.inr rfl) hw hb hC hD1 hR1 (t5.trans (r1 _ _ (by omega)).symm) h9
  rw [s10, bd_s]
  dsimp only
  have u7 : uc 807 7 = vr 814 75 := by
    rcases s6 7 with q | q
    · rw [q]; exact t7
    · omega
  have u8 : uc 807 8 = vr 814 76 := by
    rcases s6 8 with q | q
    · rw [q]; exact t8
    · omega
  have w7 : wr 814 75 = vr 814 75 := (s2 _ _ (by decide) (by decide)).trans (r1 _ _ (by decide))
  have w8 : wr 814 76 = vr 814 76 := (s2 _ _ (by decide) (by decide)).trans (r1 _ _ (by decide))
  have w46 : wr 814 46 = vr 814 46 + 1 := s5.trans r2
  have u6 : uc 807 6 = vr 814 46 + 1 := by rw [s4, t6, wr_id (by omega)]
  have W : Fz_ vr wr := fun a k h1 h2 h3 => (s2 a k (by omega) (by omega)).trans (r1 a k (by omega))
  rcases s11 with ⟨q1, q2, q3⟩ | ⟨vr2, nx, q1, q2, q3, q4, q5⟩
  · rw [if_pos q2, lt_d, lt_d, q1, bd_s]
    dsimp only
    rw [if_pos rfl, lt_d]
    refine ⟨_, _, fun a k h => ?_, fun a k h1 h2 h3 => ?_, ⟨?_, ?_, ?_, ?_⟩, ?_, rfl, Or.inl ⟨rfl, ?_, ?_⟩⟩
    · rw [up_n (by omega)]; exact s1 a k h
    · rw [up_n (by omega)]; exact W a k h1 h2 h3
    · rw [up_s ⟨rfl, rfl⟩, up_s ⟨rfl, rfl⟩]; exact t5
    · rw [up_n (by omega), up_n (by omega), u6, w46]
    · rw [up_n (by omega), up_n (by omega), u7, w7]
    · rw [up_n (by omega), up_n (by omega), u8, w8]
    · rw [up_n (by omega)]; exact w46
    · rw [up_n (by omega)]; exact q2
    · rw [up_n (by omega)]; exact q3
  · rw [if_neg (show ¬ uc 807 4 = 1 by rw [q5, h4]; decide), lt_d, lt_d, q1, bd_s]
    dsimp only
    rw [if_neg n10_, q2, bd_s]
    dsimp only
    have e : ∀ a k, up_ uc 807 5 (uc 807 5) a k = uc a k := fun a k => by
      by_cases c : a = 807 ∧ k = 5
      · rw [up_s c, c.1, c.2]
      · exact up_n c
    generalize up_ uc 807 5 (uc 807 5) = wc at e ⊢
    have e' : wc = uc := funext fun a => funext fun k => e a k
    rw [e']
    exact ⟨uc, wr, s1, W, ⟨s3, u6.trans w46.symm, u7.trans w7.symm, u8.trans w8.symm⟩, w46, rfl, Or.inr ⟨nx, rfl, q3, q4, q5.trans h4⟩⟩
theorem fast_loop {g : V_} {L : Int → Int} {p : Int} (hw : WF_ g) (hg : RG_ g) : ∀ (d n m : Nat) (i b : Int) (vc vr : V_), PF_ g L p vc vr → RC_ vc 807 vr → TR_ vc vr → vc 807 4 = 0 → NX_ (g 0 0) (vc 807 9) b → 0 ≤ i → i ≤ vr 814 46 → vr 814 46 ≤ 200 → 200 = i + d → d + 1 < n → d + 1 < m → ∃ vc' vr' how, fX6_goFast_9 n 807 p 140 189 i vc = some (0, vc') ∧ fX12_runsFast_33 m 814 b vr = some (how, vr') ∧ FO_ vc' vr' how ∧ Fa_ 807 vc vc' ∧ Fz_ vr vr' := by
  intro d
  have hn := hw.1
  induction d with
  | zero =>
    intro n m i b vc vr hF hR hT h4 hN i0 i1 i2 hd hn0 hm0
    obtain ⟨n, rfl⟩ : ∃ k, n = k + 1 := ⟨n - 1, by omega⟩
    obtain ⟨m, rfl⟩ : ∃ k, m = k + 1 := ⟨m - 1, by omega⟩
    rcases hN with ⟨q1, q2, -⟩ | ⟨q1, q2, q3⟩
    · rw [cstop_e n q1, fX12_runsFast_33, if_pos q2]
      exact ⟨vc, vr, 0, rfl, rfl, ⟨h4, Or.inl rfl, hT, fun _ => hR⟩, fun _ _ _ => rfl, fun _ _ _ _ _ => rfl⟩
    · rw [fX6_goFast_9, if_pos (by omega), fX12_runsFast_33, if_neg (by omega), if_pos (by omega)]
      unfold fX6_endIfTooLong
      rw [if_neg (by omega), lt_d, bd_s]
      dsimp only
      exact ⟨_, vr, 2, rfl, rfl, ⟨up_s ⟨rfl, rfl⟩, Or.inr (Or.inr rfl), TR_up 2 hT, fun q => absurd q (by decide)⟩, fun a k h => up_n (by omega), fun _ _ _ _ _ => rfl⟩
  | succ d ih =>
    intro n m i b vc vr hF hR hT h4 hN i0 i1 i2 hd hn0 hm0
    obtain ⟨n, rfl⟩ : ∃ k, n = k + 1 := ⟨n - 1, by omega⟩
    obtain ⟨m, rfl⟩ : ∃ k, m = k + 1 := ⟨m - 1, by omega⟩
    rcases hN with ⟨q1, q2, -⟩ | ⟨q1, q2, q3⟩
    · rw [cstop_e n q1, fX12_runsFast_33, if_pos q2]
      exact ⟨vc, vr, 0, rfl, rfl, ⟨h4, Or.inl rfl, hT, fun _ => hR⟩, fun _ _ _ => rfl, fun _ _ _ _ _ => rfl⟩
    · have t6 := hT.2.1
      by_cases full : vr 814 46 = 200
      · rw [fX6_goFast_9, if_neg (by omega), if_neg (by omega), if_pos (by omega), fX12_runsFast_33, if_neg (by omega), if_pos full]
        unfold fX6_endIfTooLong
        rw [if_neg (by omega), lt_d, bd_s]
        try dsimp only
        exact ⟨_, vr, 2, rfl, rfl, ⟨up_s ⟨rfl, rfl⟩, Or.inr (Or.inr rfl), TR_up 2 hT, fun q => absurd q (by decide)⟩, fun a k h => up_n (by omega), fun _ _ _ _ _ => rfl⟩
      · rw [q3] at q1 q2
        have hTP := hF.2.2.1
        obtain ⟨a1, a2, a3, a4, a5⟩ := hTP
        obtain ⟨b1, b2, b3⟩ := a3 b q1 q2
        obtain ⟨c1, c2, c3, c4⟩ := a5 b q1 q2 b2 b3
        have hBT := TP_BT hF.2.2.1 b2 b3
        have n14 := hBT.1
        -- behind one step
        have next : ∀ vc' vr' nx, Fa_ 807 vc vc' → Fz_ vr vr' → TR_ vc' vr' → vr 814 46 + 1 ≤ vr' 814 46 → vr' 814 46 ≤ 200 → NX_ (g 0 0) (vc' 807 9) nx → RC_ vc' 807 vr' → vc' 807 4 = 0 → ∃ wc wr how, fX6_goFast_9 n 807 p 140 189 (i + 1) vc' = some (0, wc) ∧ fX12_runsFast_33 m 814 nx vr' = some (how, wr) ∧ FO_ wc wr how ∧ Fa_ 807 vc wc ∧ Fz_ vr wr := fun vc' vr' nx f1 f2 f3 f4 f5 f6 f7 f8 => by
          obtain ⟨wc, wr, how, z1, z2, z3, z4, z5⟩ := ih n m (i + 1) nx vc' vr' (PF_fr hw hF f1 f2) f7 f3 f8 f6 (by omega) (by omega) f5 (by omega) (by omega) (by omega)
          exact ⟨wc, wr, how, z1, z2, z3, Fa_tr f1 z4, Fz_tr f2 z5⟩
        have stop : ∀ vc' vr', Fa_ 807 vc vc' → Fz_ vr vr' → TR_ vc' vr' → vc' 807 4 = 1 → vc' 807 9 = -1 → ∃ wc wr how, fX6_goFast_9 n 807 p 140 189 (i + 1) vc' = some (0, wc) ∧ (some ((1 : Int), vr') : Option (Int × V_)) = some (how, wr) ∧ FO_ wc wr how ∧ Fa_ 807 vc wc ∧ Fz_ vr wr := fun vc' vr' f1 f2 f3 f4 f5 => by
          obtain ⟨n, rfl⟩ : ∃ k, n = k + 1 := ⟨n - 1, by omega⟩
          exact ⟨vc', vr', 1, cstop_e n f5, rfl, ⟨f4, Or.inr (Or.inl rfl), f3, fun q => absurd q (by decide)⟩, f1, f2⟩
        have alone : ∃ wc wr how, fX6_goFast_76 (fX6_goFast_9 n) 807 p 140 189 i vc = some (0, wc) ∧ fX12_runsFast_96 (fX12_runsFast_33 m) 814 b vr = some (how, wr) ∧ FO_ wc wr how ∧ Fa_ 807 vc wc ∧ Fz_ vr wr := by
          obtain ⟨vc', vr', f1, f2, f3, f4, f5, f6⟩ := alone_step (i := i) hw ⟨q1, q2⟩ hF hR hT h4 q3 ⟨by omega, by omega⟩ ⟨i0, by omega⟩ (fX6_goFast_9 n) (fX12_runsFast_33 m)
          rw [f5]
          rcases f6 with ⟨f6, f7, f8⟩ | ⟨nx, f6, f7, f8, f9⟩
          · rw [f6]
            exact stop vc' vr' f1 f2 f3 f7 f8
          · rw [f6]
            exact next vc' vr' nx f1 f2 f3 (by omega) (by omega) f7 f8 f9
        rw [fX6_goFast_9, if_neg (by omega), if_neg (by omega), if_neg (by omega), fX12_runsFast_33, if_neg (by omega), if_neg full, ck_t (by omega), lt_d, ck_t (by omega), q3]
        unfold fX4_startedBy fX4_traceAt
        simp only [Int.reduceAdd]
        rw [ck_t (by omega)]
        by_cases s : vr 845 b = 0
        · rw [if_pos (c4.trans s), if_pos s, ck_t (by omega), if_neg (show ¬ vc 191 b < 0 by omega), if_neg (show ¬ vc 189 0 ≤ vc 191 b by omega), ck_t (by omega), bd_s, bd_s]
          dsimp only
          rw [b1, if_neg (by omega), ck_t (by omega), show (190 : Int) + (10 + 75 * vr 844 b) = 200 + 75 * vr 844 b by omega]
          have x1 : wr_ (vc 807 6 + vc (200 + 75 * vr 844 b) 1) = vr 814 46 + vr 847 (vr 844 b) := by rw [hBT.2.1, t6, wr_id (by omega)]
          have x2 : wr_ (vr 814 46 + vr 847 (vr 844 b)) = vr 814 46 + vr 847 (vr 844 b) := wr_id (by omega)
          by_cases big : 200 < vr 814 46 + vr 847 (vr 844 b)
          · rw [if_pos (show 200 < wr_ (vc 807 6 + vc (200 + 75 * vr 844 b) 1) by omega), if_pos (show 200 < wr_ (vr 814 46 + vr 847 (vr 844 b)) by omega)]
            exact alone
          · rw [if_neg (show ¬ 200 < wr_ (vc 807 6 + vc (200 + 75 * vr 844 b) 1) by omega), if_neg (show ¬ 200 < wr_ (vr 814 46 + vr 847 (vr 844 b)) by omega)]
            obtain ⟨mm, hP⟩ := hF.2.2.2 _ b2 b3
            obtain ⟨vc', vr', nx, f1, f2, f3, f4, f5, f6, f7⟩ := through_T (p := p) hw hg ⟨b2, by omega⟩ hP hBT hF.1 hF.2.1 hR h4 hT ⟨by omega, by omega⟩
            rw [f1, bd_s, f2, bd_s, lt_d, wr_id (by omega)]
            dsimp only
            rcases f7 with ⟨y1, y2, y3⟩ | ⟨y1, y2, y3⟩
            · rw [if_pos y1]
              exact stop vc' vr' f3 f4 f5 y2 y3
            · rw [if_neg (show ¬ nx = -3 by rcases y1 with ⟨-, -, y⟩ | ⟨y, -, y'⟩ <;> omega)]
              exact next vc' vr' nx f3 f4 f5 f6.1 (by omega) y1 y2 y3
        · rw [if_neg (show ¬ vc 192 b = 0 by omega), if_neg s, bd_s]
          dsimp only
          rw [if_pos rfl]
          exact alone
