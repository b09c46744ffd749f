/-! layer 2: traces, chosen in both -/
theorem rahead_e {v g : V_} {to : Int} (hw : WF_ g) (hD : D_ v g) (h0 : 0 ≤ to) : ∃ c, fX12_growsAhead_16 fu_ 814 to (-1) 0 v = fX12_growsAhead_16 1 814 to c 16 v ∧ LC_ g to c (2 * g 0 0) := by
  have hn := hw.1
  obtain ⟨c, e, h1, h2⟩ := lp_s (σ := Int) (F := fun n i s => fX12_growsAhead_16 n 814 to s i v) (K := fun s => fX12_growsAhead_16 1 814 to s 16 v) (e := 16) (I := fun i c => 0 ≤ i ∧ LC_ g to c (if i ≤ 2 * g 0 0 then i else 2 * g 0 0)) (fun n i c h hi => by
    obtain ⟨i0, hc⟩ := h
    rw [fX12_growsAhead_16]
    unfold fX12_growsAhead_90
    rw [if_neg (by omega), Int.tdiv_eq_ediv_of_nonneg i0, Int.tmod_eq_emod_of_nonneg i0, wr_id (show -2147483648 ≤ i / 2 ∧ i / 2 < 2147483648 by omega), wr_id (show -2147483648 ≤ i + 1 ∧ i + 1 < 2147483648 by omega), lt_d, isBlock_e hD hn]
    by_cases b : i / 2 < g 0 0
    · rw [if_pos (show 0 ≤ i / 2 ∧ i / 2 < g 0 0 by omega), bd_s, if_neg n10_]
      try dsimp only
      rw [if_pos (show i ≤ 2 * g 0 0 by omega)] at hc
      obtain ⟨-, he, -⟩ := hw.2 (i / 2) (by omega) b
      have hve := (EN_va he).1
      have st := LC_step hc i0
      have ei : 2 * (i / 2) + i % 2 = i := by omega
      refine ⟨nl_ g to c i, ?_, by omega, by rw [if_pos (by omega)]; exact st⟩
      rw [waysOf_e hD (by omega) hve, bd_s]
      try dsimp only
      unfold nl_
      by_cases wy : (if g 7 (i / 2) = 2 then (0 : Int) else g 7 (i / 2) + 1) ≤ i % 2
      · rw [if_pos wy, lt_d]
        have : g 10 i = -2 := by
          rcases he with ⟨q0, q1, q2, q3, q4, q5⟩ | ⟨q0, q1, q2, q3, q4, q5, q6⟩ | ⟨q0, q1, q2, q3, q4⟩
          · rw [if_neg (by omega)] at wy
            rw [show i = 2 * (i / 2) + 1 by omega]
            exact q5
          · rw [if_neg (by omega)] at wy
            omega
          · rcases (by omega : i % 2 = 0 ∨ i % 2 = 1) with m | m
            · rw [show i = 2 * (i / 2) by omega]; exact q3
            · rw [show i = 2 * (i / 2) + 1 by omega]; exact q4
        rw [if_neg (by omega)]
      · rw [if_neg wy, wayTo_e hD (by omega) (by omega), bd_s, ei]
        try dsimp only
        by_cases e : g 10 i = to
        · rw [if_pos e, if_pos e]
          by_cases c1 : c = -1
          · rw [if_pos c1, if_pos (by omega), lt_d]
          · have hcr : 0 ≤ c ∧ c < i := by
              rcases hc with ⟨q, -⟩ | ⟨q, q2, -⟩
              · exact absurd q c1
              · exact ⟨q, q2⟩
            rw [if_neg c1, if_neg (show ¬ c < 0 by omega), Int.tdiv_eq_ediv_of_nonneg hcr.1, Int.tmod_eq_emod_of_nonneg hcr.1, wr_id (show -2147483648 ≤ c / 2 ∧ c / 2 < 2147483648 by omega), goneOf_e hD (by omega) (by omega), bd_s, goneOf_e hD (by omega) (by omega), bd_s, ei, show 2 * (c / 2) + c % 2 = c by omega, lt_d, lt_d]
            try dsimp only
            split <;> rfl
        · rw [if_neg e, if_neg e, lt_d]
    · rw [if_neg (show ¬ (0 ≤ i / 2 ∧ i / 2 < g 0 0) by omega), bd_s, if_pos rfl, lt_d]
      refine ⟨c, rfl, by omega, ?_⟩
      have e1 : (if i ≤ 2 * g 0 0 then i else 2 * g 0 0) = 2 * g 0 0 := by split <;> omega
      have e2 : (if i + 1 ≤ 2 * g 0 0 then i + 1 else 2 * g 0 0) = 2 * g 0 0 := by split <;> omega
      rw [e1] at hc
      rw [e2]
      exact hc) (fun n s _ => by
    rw [fX12_growsAhead_16, fX12_growsAhead_16, if_pos (show (16 : Int) ≤ 16 by decide), if_pos (show (16 : Int) ≤ 16 by decide)]) 16 fu_ 0 (-1) ⟨by decide, Or.inl ⟨rfl, fun k k0 k1 => by split at k1 <;> omega⟩⟩ (by decide) (by decide)
  refine ⟨c, e, ?_⟩
  rw [show (if (16 : Int) ≤ 2 * g 0 0 then (16 : Int) else 2 * g 0 0) = 2 * g 0 0 by split <;> omega] at h2
  exact h2
theorem gbeg_T {g : V_} {p t : Int} (hw : WF_ g) (hg : RG_ g) (ht : 0 ≤ t ∧ t < 8) (k : Int → Int → V_ → Option (Int × V_)) : ∀ (d n n2 : Nat) (m : Int) (vc vr : V_), C_ vc p g → D_ vr g → TS_ g t m vc vr → 1 ≤ m → 4 = m + d → d < n → d + 1 < n2 → ∃ vc' vr' m', fX4_growAtBeginning_6 n 189 (200 + 75 * t) t p 140 m vc = some (0, vc') ∧ fX12_fillsTraces_77 k n2 814 1 vr = fX12_fillsTraces_104 k fu_ 814 0 vr' ∧ TS_ g t m' vc' vr' ∧ m ≤ m' ∧ m' ≤ 4 ∧ Gf_ t vc vr vc' vr' := by
  have hn := hw.1
  intro d
  induction d with
  | zero =>
    intro n n2 m vc vr hC hD hT h1 h4 hn0 hn2
    obtain ⟨n, rfl⟩ : ∃ k, n = k + 1 := ⟨n - 1, by omega⟩
    obtain ⟨n2, rfl⟩ : ∃ k, n2 = k + 1 := ⟨n2 - 1, by omega⟩
    refine ⟨vc, vr, m, by rw [fX4_growAtBeginning_6, if_pos (by omega)], ?_, hT, by omega, by omega, Gf_rfl⟩
    have e3 := hT.2.2.1
    have e4 := hT.2.2.2.1
    rw [fX12_fillsTraces_77, if_neg n10_, e4, ck_t ht, show (814 + 33 : Int) = 847 from rfl, e3, if_pos (by omega)]
  | succ d ih =>
    intro n n2 m vc vr hC hD hT h1 h4 hn0 hn2
    obtain ⟨n, rfl⟩ : ∃ k, n = k + 1 := ⟨n - 1, by omega⟩
    obtain ⟨n2, rfl⟩ : ∃ k, n2 = k + 1 := ⟨n2 - 1, by omega⟩
    obtain ⟨t1, t2, t3, t4, t5, t6, t7⟩ := id hT
    obtain ⟨x1, x2, x3, x4, -⟩ := t5 0 (by omega) (by omega)
    rw [Int.add_zero] at x1 x2 x3 x4
    generalize eL : vr 846 (4 * t) = L at x1 x2 x3 x4
    have stop : (∃ vc' vr' m', (some (0, vc) : Option (Int × V_)) = some (0, vc') ∧ fX12_fillsTraces_77 k n2 814 0 vr = fX12_fillsTraces_104 k fu_ 814 0 vr' ∧ TS_ g t m' vc' vr' ∧ m ≤ m' ∧ m' ≤ 4 ∧ Gf_ t vc vr vc' vr') := by
      obtain ⟨n2, rfl⟩ : ∃ k, n2 = k + 1 := ⟨n2 - 1, by omega⟩
      exact ⟨vc, vr, m, rfl, by rw [fX12_fillsTraces_77, if_pos rfl], hT, by omega, by omega, Gf_rfl⟩
    rw [fX4_growAtBeginning_6, if_neg (by omega), show 200 + 75 * t + 1 = 201 + 75 * t by omega, x1, fX12_fillsTraces_77, if_neg n10_, t4, ck_t ht, show (814 + 33 : Int) = 847 from rfl, t3, if_neg (show ¬ 4 ≤ m by omega)]
    unfold fX12_growsAhead
    rw [t4, wr_id (show -2147483648 ≤ 4 * t ∧ 4 * t < 2147483648 by omega), ck_t (by omega), show (814 + 32 : Int) = 846 from rfl, eL, lt_d]
    obtain ⟨cm, e1, e2⟩ := ccome_e (to := L) hw hg hC
    obtain ⟨cr, f1, f2⟩ := rahead_e hw hD x2
    have ecr := LC_u f2 e2
    subst ecr
    rw [e1, bd_s, f1, fX12_growsAhead_16, if_pos (show (16 : Int) ≤ 16 by decide)]
    try dsimp only
    rcases e2 with ⟨c1, -⟩ | ⟨u1, u2, u3, -⟩
    · rw [if_pos c1, if_pos (by omega), bd_s]
      exact stop
    · have ed : Int.tdiv cr 2 = cr / 2 := Int.tdiv_eq_ediv_of_nonneg u1
      have em : Int.tmod cr 2 = cr % 2 := Int.tmod_eq_emod_of_nonneg u1
      have hF : 0 ≤ cr / 2 ∧ cr / 2 < g 0 0 := by omega
      obtain ⟨q1, q2, q3⟩ := t1 (cr / 2) hF.1 (by omega)
      rw [if_neg (by omega), if_neg (show ¬ cr < 0 by omega), ed, em, wr_id (by omega), lt_d, ck_t (by omega), ck_t (by omega), show (189 + 2 : Int) = 191 from rfl, show (814 + 30 : Int) = 844 from rfl]
      by_cases c : vr 844 (cr / 2) = -1
      · rw [if_pos (q1.trans c), if_neg (show ¬ 0 ≤ vr 844 (cr / 2) by omega), cway_e hw hC hF, bd_s, rway_e hw hD hF, bd_s]
        try dsimp only
        by_cases l : mw_ g (cr / 2) = cr % 2
        · rw [if_pos l, if_pos l]
          obtain ⟨w, p1, p2, p3, p4⟩ := cpre_e (b := cr / 2) t2 (show 1 ≤ m ∧ m < 4 by omega)
          rw [p1, bd_s, ck_t (by omega), lt_d, lt_d, wr_id (by omega)]
          try dsimp only [Int.reduceAdd]
          rw [show 200 + 75 * t + 1 = 201 + 75 * t by omega] at p2
          obtain ⟨wr, j1, j2, j3⟩ := TS_add (wc := up_ w 191 (cr / 2) t) (b := cr / 2) (q := 0) hn.2 hT ht ⟨by omega, by omega⟩ hF c ⟨by omega, by omega⟩ (Or.inl ⟨rfl, fun e => by unfold mw_ at l; rw [if_pos e] at l; omega⟩) (fun i i0 i1 => by
            rw [up_n (by omega), p2 i i0 i1, if_neg (show ¬ i < 0 by omega)]) (by rw [up_n (by omega)]; exact p3) (fun k => by
            by_cases d : k = cr / 2
            · rw [if_pos d, up_s ⟨rfl, d⟩]
            · rw [if_neg d, up_n (by omega)]; exact p4 _ _ (by omega) (by omega)) (fun a k z1 z2 z3 => by rw [up_n (by omega)]; exact p4 _ _ z1 (by omega))
          rw [j1, bd_s, bd_s]
          try dsimp only
          obtain ⟨vc', vr', m', s1, s2, s3, s4, s5, s6⟩ := ih n n2 (m + 1) _ wr (GfC hw ht j3 hC) (GfD j3 hD) j2 (by omega) (by omega) (by omega) (by omega)
          exact ⟨vc', vr', m', s1, s2, s3, by omega, s5, Gf_tr (by omega) j3 s6⟩
        · rw [if_neg l, if_neg l, bd_s]
          exact stop
      · rw [if_neg (by rw [q1]; exact c), if_pos (show 0 ≤ vr 844 (cr / 2) by omega), bd_s]
        exact stop
/-- places in the trace, in both -/
theorem place_T {g : V_} {p t m : Int} {vc vr : V_} (hn : g 0 0 ≤ 8) (ht : 0 ≤ t ∧ t < 8) (hT : TS_ g t m vc vr) (hm : 1 ≤ m ∧ m ≤ 4) (k : Int → Int → Int → Int → Int → V_ → Option (Int × V_)) (k2 : Int → Int → V_ → Option (Int × V_)) : ∃ vc' vr', fX4_chooseTraces_91 k fu_ 189 p 140 t (200 + 75 * t) 0 vc = bd_ (fX4_mostBegun 189 p 140 vc') (fun q => k 189 p 140 q.1 (t + 1) q.2) ∧ fX12_fillsTraces_104 k2 fu_ 814 0 vr = bd_ (fX12_seedBlock 814 (up_ vr' 814 52 (t + 1))) (fun q => k2 814 q.1 q.2) ∧ (∀ a k, a ≠ 192 → vc' a k = vc a k) ∧ (∀ a k, a ≠ 845 → vr' a k = vr a k) ∧ (∀ j, 0 ≤ j → j < m → vc' 192 (vr 846 (4 * t + j)) = j ∧ vr' 845 (vr 846 (4 * t + j)) = j) ∧ ∀ c, (∀ j, 0 ≤ j → j < m → c ≠ vr 846 (4 * t + j)) → vc' 192 c = vc 192 c ∧ vr' 845 c = vr 845 c := by
  obtain ⟨t1, t2, t3, t4, t5, t6, t7⟩ := hT
  obtain ⟨s, e, -, h1, h2, h3, h4⟩ := lp_s (σ := V_ × V_) (α := Option (Int × V_) × Option (Int × V_)) (F := fun n i s => (fX4_chooseTraces_91 k n 189 p 140 t (200 + 75 * t) i s.1, fX12_fillsTraces_104 k2 n 814 i s.2)) (K := fun s => (bd_ (fX4_mostBegun 189 p 140 s.1) (fun q => k 189 p 140 q.1 (t + 1) q.2), bd_ (fX12_seedBlock 814 (up_ s.2 814 52 (t + 1))) (fun q => k2 814 q.1 q.2))) (e := m) (I := fun i s => 0 ≤ i ∧ (∀ a k, a ≠ 192 → s.1 a k = vc a k) ∧ (∀ a k, a ≠ 845 → s.2 a k = vr a k) ∧ (∀ j, 0 ≤ j → j < i → s.1 192 (vr 846 (4 * t + j)) = j ∧ s.2 845 (vr 846 (4 * t + j)) = j) ∧ ∀ c, (∀ j, 0 ≤ j → j < m → c ≠ vr 846 (4 * t + j)) → s.1 192 c = vc 192 c ∧ s.2 845 c = vr 845 c) (fun n i s h hi => by
    obtain ⟨i0, a1, a2, a3, a4⟩ := h
    obtain ⟨x1, x2, x3, x4, x5⟩ := t5 i i0 hi
    refine ⟨(up_ s.1 192 (vr 846 (4 * t + i)) i, up_ s.2 845 (vr 846 (4 * t + i)) i), ?_, by omega, fun a k h => ?_, fun a k h => ?_, fun j j0 j1 => ?_, fun c hc => ?_⟩
    · rw [Prod.mk.injEq]
      constructor
      · rw [fX4_chooseTraces_91, a1 _ _ (by omega), t2, if_neg (by omega), ck_t (by omega), show 200 + 75 * t + 1 = 201 + 75 * t by omega, a1 _ _ (by omega), x1, ck_t (by omega), lt_d, lt_d, wr_id (by omega)]
        rfl
      · rw [fX12_fillsTraces_104, ck_t (by rw [a2 _ _ (by decide), t4]; exact ht), if_neg (by rw [a2 _ _ (by decide), a2 _ _ (by decide), t4]; show ¬ vr 847 t ≤ i; omega)]
        have e52 : s.2 814 52 = t := (a2 _ _ (by decide)).trans t4
        have e846 : s.2 (814 + 32) (4 * t + i) = vr 846 (4 * t + i) := a2 _ _ (by decide)
        rw [e52, wr_id (show -2147483648 ≤ 4 * t ∧ 4 * t < 2147483648 by omega), wr_id (show -2147483648 ≤ 4 * t + i ∧ 4 * t + i < 2147483648 by omega), ck_t (by omega), e846, ck_t (by omega), lt_d, lt_d, wr_id (by omega)]
        rfl
    · dsimp only; rw [up_n (by omega)]; exact a1 a k h
    · dsimp only; rw [up_n (by omega)]; exact a2 a k h
    · dsimp only
      by_cases c : j = i
      · rw [c, up_s ⟨rfl, rfl⟩, up_s ⟨rfl, rfl⟩]
        exact ⟨rfl, rfl⟩
      · have := x5 j j0 (by omega)
        rw [up_n (by omega), up_n (by omega)]
        exact a3 j j0 (by omega)
    · have := hc i i0 hi
      dsimp only
      rw [up_n (by omega), up_n (by omega)]
      exact a4 c hc) (fun n s h => by
    obtain ⟨i0, a1, a2, a3, a4⟩ := h
    rw [Prod.mk.injEq]
    constructor
    · rw [fX4_chooseTraces_91, a1 _ _ (by omega), t2, if_pos (by omega), wr_id (by omega)]
      rfl
    · have e52 : s.2 814 52 = t := (a2 _ _ (by decide)).trans t4
      rw [fX12_fillsTraces_104, ck_t (by rw [e52]; exact ht), if_pos (by rw [e52, a2 _ _ (by decide)]; show vr 847 t ≤ m; omega), e52, lt_d, wr_id (by omega)]) m.toNat fu_ 0 (vc, vr) ⟨by decide, fun _ _ _ => rfl, fun _ _ _ => rfl, fun j j0 j1 => by omega, fun c _ => ⟨rfl, rfl⟩⟩ (by omega) (by unfold fu_; omega)
  obtain ⟨e1, e2⟩ := Prod.mk.inj e
  exact ⟨s.1, s.2, e1, e2, h1, h2, h3, h4⟩
