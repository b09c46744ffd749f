/-! layer 2: all traces, in both -/
/-- the traces below t, done -/
def TD_ (g : V_) (t : Int) (vc vr : V_) : Prop := (∀ s, 0 ≤ s → s < t → (1 ≤ vr 847 s ∧ vr 847 s ≤ 4) ∧ vc (200 + 75 * s) 1 = vr 847 s ∧ ∀ i, 0 ≤ i → i < vr 847 s → vc (201 + 75 * s) i = vr 846 (4 * s + i) ∧ 0 ≤ vr 846 (4 * s + i) ∧ vr 846 (4 * s + i) < g 0 0 ∧ vr 844 (vr 846 (4 * s + i)) = s ∧ vr 845 (vr 846 (4 * s + i)) = i ∧ vc 192 (vr 846 (4 * s + i)) = i ∧ (i + 1 < vr 847 s → g 7 (vr 846 (4 * s + i)) ≠ 2)) ∧ ∀ b, 0 ≤ b → b < g 0 0 → 0 ≤ vr 844 b → vr 844 b < t → 0 ≤ vr 845 b ∧ vr 845 b < vr 847 (vr 844 b) ∧ vr 846 (4 * vr 844 b + vr 845 b) = b ∧ vc 192 b = vr 845 b
/-- all traces, in both -/
def TP_ (g : V_) (vc vr : V_) : Prop := vc 189 0 = vr 814 52 ∧ (0 ≤ vr 814 52 ∧ vr 814 52 ≤ 8) ∧ (∀ b, 0 ≤ b → b < g 0 0 → vc 191 b = vr 844 b ∧ 0 ≤ vr 844 b ∧ vr 844 b < vr 814 52) ∧ TD_ g (vr 814 52) vc vr
def ub_ (n : Int) (T : Int → Int) (b : Int) : Int := if b < n then (if T b = -1 then 1 else 0) else 0
def un_ (n : Int) (T : Int → Int) : Int := ub_ n T 0 + ub_ n T 1 + ub_ n T 2 + ub_ n T 3 + ub_ n T 4 + ub_ n T 5 + ub_ n T 6 + ub_ n T 7
theorem ub_01 (n : Int) (T : Int → Int) (b : Int) : 0 ≤ ub_ n T b ∧ ub_ n T b ≤ 1 := by
  unfold ub_
  split
  · split <;> decide
  · decide
theorem un_8 (n : Int) (T : Int → Int) : 0 ≤ un_ n T ∧ un_ n T ≤ 8 := by
  have := ub_01 n T 0; have := ub_01 n T 1; have := ub_01 n T 2; have := ub_01 n T 3; have := ub_01 n T 4; have := ub_01 n T 5; have := ub_01 n T 6; have := ub_01 n T 7
  unfold un_
  omega
theorem un_lt {n : Int} {T S : Int → Int} {r : Int} (hn : n ≤ 8) (hr : 0 ≤ r ∧ r < n) (h : ∀ b, S b = -1 → T b = -1) (h1 : T r = -1) (h2 : S r ≠ -1) : un_ n S + 1 ≤ un_ n T := by
  have mono : ∀ b, ub_ n S b ≤ ub_ n T b := fun b => by
    unfold ub_
    by_cases c : b < n
    · rw [if_pos c, if_pos c]
      by_cases d : S b = -1
      · rw [if_pos d, if_pos (h b d)]
        decide
      · rw [if_neg d]
        split <;> decide
    · rw [if_neg c, if_neg c]
      decide
  have st : ub_ n S r + 1 ≤ ub_ n T r := by
    unfold ub_
    rw [if_pos hr.2, if_neg h2, if_pos hr.2, if_pos h1]
    decide
  have := mono 0; have := mono 1; have := mono 2; have := mono 3; have := mono 4; have := mono 5; have := mono 6; have := mono 7
  unfold un_
  rcases (by omega : r = 0 ∨ r = 1 ∨ r = 2 ∨ r = 3 ∨ r = 4 ∨ r = 5 ∨ r = 6 ∨ r = 7) with rfl | rfl | rfl | rfl | rfl | rfl | rfl | rfl <;> omega
def Fp_ (u w : V_) : Prop := ∀ a k, a < 189 ∨ 800 ≤ a → w a k = u a k
def Fq_ (u w : V_) : Prop := ∀ a k, ¬ (844 ≤ a ∧ a ≤ 847) → ¬ (a = 814 ∧ k = 52) → w a k = u a k
theorem tloop_T {g : V_} {p : Int} (hw : WF_ g) (hg : RG_ g) : ∀ (d n n2 : Nat) (t r : Int) (vc vr : V_), C_ vc p g → D_ vr g → TD_ g t vc vr → 0 ≤ t → (∀ b, 0 ≤ b → b < 8 → vc 191 b = vr 844 b ∧ -1 ≤ vr 844 b ∧ vr 844 b < t) → vc 189 0 = t → vr 814 52 = t → (∀ s, t ≤ s → s < 8 → vr 847 s = 0) → ((r = -1 ∧ ∀ b, 0 ≤ b → b < g 0 0 → vr 844 b ≠ -1) ∨ (0 ≤ r ∧ r < g 0 0 ∧ vr 844 r = -1)) → un_ (g 0 0) (vr 844) + t ≤ 8 → un_ (g 0 0) (vr 844) ≤ d → d < n → d < n2 → ∃ vc' vr', fX4_chooseTraces_23 n 189 p 140 r t vc = some (0, vc') ∧ fX12_fillsTraces_38 n2 814 r vr = some (0, vr') ∧ TP_ g vc' vr' ∧ Fp_ vc vc' ∧ Fq_ vr vr' := by
  have hn := hw.1
  have stop : ∀ (n n2 : Nat) (t r : Int) (vc vr : V_), TD_ g t vc vr → 0 ≤ t → (∀ b, 0 ≤ b → b < 8 → vc 191 b = vr 844 b ∧ -1 ≤ vr 844 b ∧ vr 844 b < t) → vc 189 0 = t → vr 814 52 = t → t ≤ 8 → r = -1 → (∀ b, 0 ≤ b → b < g 0 0 → vr 844 b ≠ -1) → ∃ vc' vr', fX4_chooseTraces_23 (n + 1) 189 p 140 r t vc = some (0, vc') ∧ fX12_fillsTraces_38 (n2 + 1) 814 r vr = some (0, vr') ∧ TP_ g vc' vr' ∧ Fp_ vc vc' ∧ Fq_ vr vr' := fun n n2 t r vc vr hT t0 hA e1 e2 t8 hr hu => by
    refine ⟨vc, vr, ?_, by rw [fX12_fillsTraces_38, if_pos (by omega)], ⟨e1.trans e2.symm, by omega, fun b b0 b1 => ?_, by rw [e2]; exact hT⟩, fun _ _ _ => rfl, fun _ _ _ _ => rfl⟩
    · rw [fX4_chooseTraces_23]
      by_cases c : 8 ≤ t
      · rw [if_pos c]
      · rw [if_neg c, if_pos hr]
    · have := hA b b0 (by omega)
      have := hu b b0 b1
      omega
  intro d
  induction d with
  | zero =>
    intro n n2 t r vc vr hC hD hT t0 hA e1 e2 hz hr hun hd hn0 hn2
    obtain ⟨n, rfl⟩ : ∃ k, n = k + 1 := ⟨n - 1, by omega⟩
    obtain ⟨n2, rfl⟩ : ∃ k, n2 = k + 1 := ⟨n2 - 1, by omega⟩
    have := un_8 (g 0 0) (vr 844)
    rcases hr with ⟨r1, r2⟩ | ⟨r1, r2, r3⟩
    · exact stop n n2 t r vc vr hT t0 hA e1 e2 (by omega) r1 r2
    · have := un_lt (S := fun _ => 0) (T := vr 844) hn.2 ⟨r1, r2⟩ (fun b q => absurd q (by decide)) r3 (by decide)
      have := un_8 (g 0 0) (fun _ => 0)
      omega
  | succ d ih =>
    intro n n2 t r vc vr hC hD hT t0 hA e1 e2 hz hr hun hd hn0 hn2
    obtain ⟨n, rfl⟩ : ∃ k, n = k + 1 := ⟨n - 1, by omega⟩
    obtain ⟨n2, rfl⟩ : ∃ k, n2 = k + 1 := ⟨n2 - 1, by omega⟩
    have u0 := un_8 (g 0 0) (vr 844)
    rcases hr with ⟨r1, r2⟩ | ⟨r1, r2, r3⟩
    · exact stop n n2 t r vc vr hT t0 hA e1 e2 (by omega) r1 r2
    · have u1 := un_lt (S := fun _ => 0) (T := vr 844) hn.2 ⟨r1, r2⟩ (fun b q => absurd q (by decide)) r3 (by decide)
      have u2 := un_8 (g 0 0) (fun _ => 0)
      have ht : 0 ≤ t ∧ t < 8 := by omega
      rw [fX4_chooseTraces_23, if_neg (by omega), if_neg (by omega), ck_t ht, show (189 + 1 : Int) + (10 + 75 * t) = 200 + 75 * t by omega, lt_d]
      unfold fX10_beginWith
      rw [lt_d, lt_d, bd_s, ck_t (by omega), lt_d, lt_d]
      try dsimp only
      rw [up_n (show ¬ ((189 : Int) = 189 + 2 ∧ (0 : Int) = r) by omega), up_n (show ¬ ((189 : Int) = 200 + 75 * t + 1 ∧ (0 : Int) = 0) by omega), up_n (show ¬ ((189 : Int) = 200 + 75 * t ∧ (0 : Int) = 1) by omega), e1, wr_id (show -2147483648 ≤ t + 1 ∧ t + 1 < 2147483648 by omega), show 200 + 75 * t + 1 = 201 + 75 * t by omega, show (189 + 2 : Int) = 191 from rfl]
      rw [fX12_fillsTraces_38, if_neg (by omega)]
      generalize ev0 : up_ (up_ vc (200 + 75 * t) 1 0) 189 0 (t + 1) = v0
      have z1 : ∀ a k, ¬ (a = 200 + 75 * t ∧ k = 1) → ¬ (a = 189 ∧ k = 0) → v0 a k = vc a k := fun a k h h2 => by rw [← ev0, up_n h2, up_n h]
      have z2 : v0 (200 + 75 * t) 1 = 0 := by rw [← ev0, up_n (by omega), up_s ⟨rfl, rfl⟩]
      have z3 : v0 189 0 = t + 1 := by rw [← ev0, up_s ⟨rfl, rfl⟩]
      have hT0 : TS_ g t 0 v0 vr := ⟨fun b b0 b1 => by rw [z1 _ _ (by omega) (by omega)]; have := hA b b0 b1; omega, z2, hz t (by omega) ht.2, e2, fun i i0 i1 => by omega, fun b b0 b1 hb => (by have := hA b b0 (by omega); omega), fun i i0 i1 => by omega⟩
      obtain ⟨wr, j1, j2, j3⟩ := TS_add (wc := up_ (up_ (up_ (up_ vc (200 + 75 * t) 1 1) (201 + 75 * t) 0 r) 191 r t) 189 0 (t + 1)) (b := r) (q := 0) hn.2 hT0 ht (by decide) ⟨r1, r2⟩ r3 (by decide) (Or.inr ⟨rfl, fun q => absurd q (by decide)⟩) (fun i i0 i1 => by
        have : i = 0 := by omega
        rw [if_neg (by omega), if_pos this, up_n (by omega), up_n (by omega), up_s ⟨rfl, this⟩]) (by rw [up_n (by omega), up_n (by omega), up_n (by omega), up_s ⟨rfl, rfl⟩]; rfl) (fun k => by
        rw [up_n (by omega)]
        by_cases c : k = r
        · rw [if_pos c, up_s ⟨rfl, c⟩]
        · rw [if_neg c, up_n (by omega), up_n (by omega), up_n (by omega), z1 _ _ (by omega) (by omega)]) (fun a k y1 y2 y3 => by
        by_cases c : a = 189 ∧ k = 0
        · rw [up_s c, c.1, c.2, z3]
        · rw [up_n c, up_n (by omega), up_n (by omega), up_n (by omega), z1 _ _ y1 c])
      rw [j1, bd_s]
      try dsimp only
      have kr : wr 844 r = t := by
        obtain ⟨o1, -, -, o4, -⟩ := j2.2.2.2.2.1 0 (by decide) (by decide)
        rw [up_n (by omega), up_n (by omega), up_s ⟨rfl, rfl⟩] at o1
        rw [← o1] at o4
        exact o4
      generalize up_ (up_ (up_ (up_ vc (200 + 75 * t) 1 1) (201 + 75 * t) 0 r) 191 r t) 189 0 (t + 1) = w0 at j2 j3 ⊢
      have hC0 : C_ v0 p g := C_fr hw hC (fun a k a0 a1 => z1 a k (by omega) (by omega)) (fun k _ _ => z1 _ k (by omega) (by omega))
      have hC1 := GfC hw ht j3 hC0
      have hD1 := GfD j3 hD
      obtain ⟨vc2, vr2, m2, s1, s2, s3, s4, s5, s6⟩ := gend_T hw hg ht (fX12_fillsTraces_38 n2) 3 fu_ fu_ 1 w0 wr hC1 hD1 j2 (by decide) (by decide) (by decide) (by decide)
      unfold fX4_growAtEnd fX4_growAtBeginning
      rw [s1, bd_s, s2]
      try dsimp only
      have hC2 := GfC hw ht s6 hC1
      have hD2 := GfD s6 hD1
      obtain ⟨vc3, vr3, m3, s7, s8, s9, s10, s11, s12⟩ := gbeg_T hw hg ht (fX12_fillsTraces_38 n2) (4 - m2).toNat fu_ fu_ m2 vc2 vr2 hC2 hD2 s3 s4 (by omega) (by unfold fu_; omega) (by unfold fu_; omega)
      rw [s3.2.1, lt_d, s7, bd_s, s8]
      try dsimp only
      have hC3 := GfC hw ht s12 hC2
      have hD3 := GfD s12 hD2
      obtain ⟨vc4, vr4, p1, p2, p3, p4, p5, p6⟩ := place_T (p := p) hn.2 ht s9 ⟨by omega, s11⟩ (fX4_chooseTraces_23 n) (fX12_fillsTraces_38 n2)
      rw [p1, p2]
      have k6 := s6.2.2.2.2
      have k12 := s12.2.2.2.2
      have G := Gf_tr (by omega) (Gf_tr (by omega) j3 s6) s12
      clear j3 s6 s12 s2 s8 s1 s7 p1 p2 j1 j2 s3
      obtain ⟨g1, g2, g3, g4, g5⟩ := G
      obtain ⟨y1, y2, y3, y4, y5, y6, y7⟩ := s9
      -- the memories behind the trace
      have hC4 : C_ vc4 p g := C_fr hw hC3 (fun a k a0 a1 => p3 a k (by omega)) (fun k _ _ => p3 _ k (by omega))
      have q4 : ∀ a k, a ≠ 845 → ¬ (a = 814 ∧ k = 52) → up_ vr4 814 52 (t + 1) a k = vr3 a k := fun a k h h2 => by rw [up_n (by omega)]; exact p4 a k h
      have q52 : up_ vr4 814 52 (t + 1) 814 52 = t + 1 := up_s ⟨rfl, rfl⟩
      have q845 : ∀ k, up_ vr4 814 52 (t + 1) 845 k = vr4 845 k := fun k => up_n (by omega)
      generalize up_ vr4 814 52 (t + 1) = vr5 at q4 q52 q845 ⊢
      have hD5 : D_ vr5 g := D_fr hD3 (q4 _ _ (by omega) (by omega)) (fun a k a0 a1 => q4 _ _ (by omega) (by omega)) (fun k _ _ => q4 _ _ (by omega) (by omega))
      have hA5 : ∀ b, 0 ≤ b → b < 8 → vc4 191 b = vr5 844 b ∧ -1 ≤ vr5 844 b ∧ vr5 844 b < t + 1 := fun b b0 b1 => by
        rw [p3 _ _ (by omega), q4 _ _ (by omega) (by omega)]
        have := y1 b b0 b1
        omega
      obtain ⟨r', f1, f2, f3⟩ := seed_T hw hC4 hD5 (fun b b0 b1 => ⟨(hA5 b b0 b1).1, (hA5 b b0 b1).2.1⟩)
      rw [f1, bd_s, f2, bd_s]
      try dsimp only
      have hx : ∀ b, vr5 844 b = vr 844 b ∨ (vr 844 b = -1 ∧ vr5 844 b = t) := fun b => by rw [q4 _ _ (by omega) (by omega)]; exact g5 b
      have ne1 : t ≠ -1 := by omega
      have hrt : vr5 844 r = t := by
        rw [q4 _ _ (by omega) (by omega)]
        rcases k12 r with e | ⟨e, e3⟩
        · rcases k6 r with e4 | ⟨e4, e5⟩
          · rw [e, e4]; exact kr
          · rw [e]; exact e5
        · exact e3
      have Q47 : ∀ s, s ≠ t → vr5 847 s = vr 847 s := fun s h => by rw [q4 _ _ (by omega) (by omega)]; exact g4 s h
      have Q46 : ∀ k, ¬ (4 * t ≤ k ∧ k < 4 * t + 4) → vr5 846 k = vr 846 k := fun k h => by rw [q4 _ _ (by omega) (by omega)]; exact g3 k h
      have C200 : ∀ s k, s ≠ t → 0 ≤ s → vc4 (200 + 75 * s) k = vc (200 + 75 * s) k := fun s k h h0 => by rw [p3 _ _ (by omega), g1 _ _ (by omega) (by omega) (by omega), z1 _ _ (by omega) (by omega)]
      have C201 : ∀ s k, s ≠ t → 0 ≤ s → vc4 (201 + 75 * s) k = vc (201 + 75 * s) k := fun s k h h0 => by rw [p3 _ _ (by omega), g1 _ _ (by omega) (by omega) (by omega), z1 _ _ (by omega) (by omega)]
      have out : ∀ X, vr5 844 X ≠ t → vc4 192 X = vc 192 X ∧ vr5 845 X = vr 845 X := fun X h => by
        obtain ⟨w1, w2⟩ := p6 X (fun j j0 j1 e => by
          have := (y5 j j0 j1).2.2.2.1
          rw [← e] at this
          exact h (by rw [q4 _ _ (by omega) (by omega)]; exact this))
        rw [w1, q845, w2, g1 _ _ (by omega) (by omega) (by omega), z1 _ _ (by omega) (by omega), g2 _ _ (by omega) (by omega) (by omega)]
        exact ⟨rfl, rfl⟩
      have old : ∀ X s, vr 844 X = s → 0 ≤ s → s < t → vr5 844 X = s := fun X s h h0 h1 => by
        rcases hx X with e | ⟨e, -⟩
        · exact e.trans h
        · omega
      have hT5 : TD_ g (t + 1) vc4 vr5 := by
        refine ⟨fun s s0 s1 => ?_, fun b b0 b1 hb0 hb1 => ?_⟩
        · by_cases c : s = t
          · have e47 : vr5 847 t = m3 := by rw [q4 _ _ (by omega) (by omega)]; exact y3
            rw [c, e47]
            refine ⟨⟨by omega, by omega⟩, by rw [p3 _ _ (by omega)]; exact y2, fun i i0 i1 => ?_⟩
            obtain ⟨x1, x2, x3, x4, -⟩ := y5 i i0 i1
            obtain ⟨w1, w2⟩ := p5 i i0 i1
            have e46 : vr5 846 (4 * t + i) = vr3 846 (4 * t + i) := q4 _ _ (by omega) (by omega)
            rw [e46]
            refine ⟨by rw [p3 _ _ (by omega)]; exact x1, x2, x3, by rw [q4 _ _ (by omega) (by omega)]; exact x4, by rw [q845]; exact w2, w1, fun h => y7 i i0 h⟩
          · obtain ⟨a1, a2, a3⟩ := hT.1 s s0 (by omega)
            rw [Q47 s c, C200 s 1 c s0]
            refine ⟨a1, a2, fun i i0 i1 => ?_⟩
            obtain ⟨x1, x2, x3, x4, x5, x6⟩ := a3 i i0 i1
            rw [Q46 _ (by omega), C201 s i c s0]
            have o := old _ s x4 s0 (by omega)
            obtain ⟨w1, w2⟩ := out (vr 846 (4 * s + i)) (by omega)
            exact ⟨x1, x2, x3, o, w2.trans x5, w1.trans x6.1, x6.2⟩
        · by_cases c : vr5 844 b = t
          · obtain ⟨i, i0, i1, i2⟩ := y6 b b0 b1 (by rw [← q4 _ _ (by omega) (by omega)]; exact c)
            obtain ⟨w1, w2⟩ := p5 i i0 i1
            rw [i2] at w1 w2
            have e5 : vr5 845 b = i := (q845 b).trans w2
            have e47 : vr5 847 t = m3 := by rw [q4 _ _ (by omega) (by omega)]; exact y3
            rw [c, e5, e47]
            exact ⟨i0, i1, by rw [q4 _ _ (by omega) (by omega)]; exact i2, w1⟩
          · have o : vr5 844 b = vr 844 b := by
              rcases hx b with e | ⟨-, e⟩
              · exact e
              · exact absurd e c
            obtain ⟨w1, w2⟩ := out b c
            rw [o] at hb0 hb1 c ⊢
            obtain ⟨v1, v2, v3, v4⟩ := hT.2 b b0 b1 hb0 (by omega)
            have v5 := (hT.1 (vr 844 b) hb0 (by omega)).1
            rw [w2, w1, Q47 _ c, Q46 _ (by omega)]
            exact ⟨v1, v2, v3, v4⟩
      have hun5 := un_lt (S := vr5 844) (T := vr 844) hn.2 ⟨r1, r2⟩ (fun b q => by
        rcases hx b with e | ⟨e, -⟩
        · exact e.symm.trans q
        · exact e) r3 (by omega)
      obtain ⟨vc', vr', b1, b2, b3, b4, b5⟩ := ih n n2 (t + 1) r' vc4 vr5 hC4 hD5 hT5 (by omega) hA5 (by rw [p3 _ _ (by omega), g1 _ _ (by omega) (by omega) (by omega)]; exact z3) q52 (fun s s0 s1 => by rw [Q47 s (by omega)]; exact hz s (by omega) s1) f3 (by omega) (by omega) (by omega) (by omega)
      refine ⟨vc', vr', b1, b2, b3, fun a k h => ?_, fun a k h h2 => ?_⟩
      · rw [b4 a k h, p3 _ _ (by omega), g1 _ _ (by omega) (by omega) (by omega), z1 _ _ (by omega) (by omega)]
      · rw [b5 a k h h2, q4 _ _ (by omega) h2, g2 _ _ (by omega) (by omega) (by omega)]
theorem traces_T {g vc vr : V_} {p : Int} (hw : WF_ g) (hg : RG_ g) (hC : C_ vc p g) (hD : D_ vr g) : ∃ vc' vr', fX4_chooseTraces 189 p 140 vc = some (0, vc') ∧ fX12_fillsTraces 814 vr = some (0, vr') ∧ TP_ g vc' vr' ∧ Fp_ vc vc' ∧ Fq_ vr vr' := by
  have hn := hw.1
  unfold fX4_chooseTraces fX12_fillsTraces
  rw [lt_d, lt_d]
  obtain ⟨u, e, -, h1, h2⟩ := lp_s (σ := V_) (F := fun n i v => fX12_fillsTraces_2 n 814 i v) (K := fun v => bd_ (fX12_seedBlock 814 (up_ v 814 52 0)) (fun q => fX12_fillsTraces_38 fu_ 814 q.1 q.2)) (e := 8) (I := fun i u => 0 ≤ i ∧ (∀ a j, a ≠ 844 → a ≠ 847 → u a j = vr a j) ∧ ∀ b, 0 ≤ b → b < i → u 844 b = -1 ∧ u 847 b = 0) (fun n i u h hi => by
    obtain ⟨h0, h1, h2⟩ := h
    rw [fX12_fillsTraces_2, if_neg (by omega), ck_t (by omega), lt_d, ck_t (by omega), lt_d, lt_d, wr_id (by omega)]
    dsimp only [Int.reduceAdd]
    refine ⟨_, rfl, by omega, fun a j q q2 => ?_, fun b b0 b1 => ?_⟩
    · rw [up_n (by omega), up_n (by omega)]; exact h1 a j q q2
    · by_cases e : b = i
      · rw [up_n (by omega), up_s ⟨rfl, e⟩, up_s ⟨rfl, e⟩]
        exact ⟨rfl, rfl⟩
      · rw [up_n (by omega), up_n (by omega), up_n (by omega), up_n (by omega)]
        exact h2 b b0 (by omega)) (fun n u _ => by
    rw [fX12_fillsTraces_2, if_pos (by decide), lt_d]) 8 fu_ 0 vr ⟨by decide, fun _ _ _ _ => rfl, fun b b0 b1 => by omega⟩ (by decide) (by decide)
  rw [e]
  have fl_i : ∀ {v : V_} {a n x b j : Int}, b = a ∧ 0 ≤ j ∧ j < n → fl_ v a n x b j = x := fun h => if_pos h
  have fl_o : ∀ {v : V_} {a n x b j : Int}, ¬ (b = a ∧ 0 ≤ j ∧ j < n) → fl_ v a n x b j = v b j := fun h => if_neg h
  have w1 : ∀ a k, a ≠ 191 → ¬ (a = 189 ∧ k = 0) → fl_ (up_ vc 189 0 0) (189 + 2) 8 (-1) a k = vc a k := fun a k h h2 => by rw [fl_o (by omega), up_n h2]
  have w2 : ∀ b, 0 ≤ b → b < 8 → fl_ (up_ vc 189 0 0) (189 + 2) 8 (-1) 191 b = -1 := fun b b0 b1 => fl_i ⟨rfl, b0, b1⟩
  have w3 : fl_ (up_ vc 189 0 0) (189 + 2) 8 (-1) 189 0 = 0 := by rw [fl_o (by omega), up_s ⟨rfl, rfl⟩]
  generalize fl_ (up_ vc 189 0 0) (189 + 2) 8 (-1) = wc at w1 w2 w3 ⊢
  have x1 : ∀ a j, a ≠ 844 → a ≠ 847 → ¬ (a = 814 ∧ j = 52) → up_ u 814 52 0 a j = vr a j := fun a j q q2 q3 => by rw [up_n q3]; exact h1 a j q q2
  have x2 : ∀ b, 0 ≤ b → b < 8 → up_ u 814 52 0 844 b = -1 ∧ up_ u 814 52 0 847 b = 0 := fun b b0 b1 => by rw [up_n (by omega), up_n (by omega)]; exact h2 b b0 b1
  have x3 : up_ u 814 52 0 814 52 = 0 := up_s ⟨rfl, rfl⟩
  generalize up_ u 814 52 0 = wr at x1 x2 x3 ⊢
  have hC1 : C_ wc p g := C_fr hw hC (fun a k a0 a1 => w1 a k (by omega) (by omega)) (fun k _ _ => w1 _ k (by omega) (by omega))
  have hD1 : D_ wr g := D_fr hD (x1 _ _ (by omega) (by omega) (by omega)) (fun a k a0 b0 => x1 _ _ (by omega) (by omega) (by omega)) (fun k _ _ => x1 _ _ (by omega) (by omega) (by omega))
  have hA : ∀ b, 0 ≤ b → b < 8 → wc 191 b = wr 844 b ∧ -1 ≤ wr 844 b ∧ wr 844 b < 0 := fun b b0 b1 => by rw [w2 b b0 b1, (x2 b b0 b1).1]; decide
  obtain ⟨r, f1, f2, f3⟩ := seed_T hw hC1 hD1 (fun b b0 b1 => ⟨(hA b b0 b1).1, (hA b b0 b1).2.1⟩)
  have u8 := un_8 (g 0 0) (wr 844)
  obtain ⟨vc', vr', b1, b2, b3, b4, b5⟩ := tloop_T hw hg 8 fu_ fu_ 0 r wc wr hC1 hD1 ⟨fun s s0 s1 => by omega, fun b b0 b1 c0 c1 => by omega⟩ (by decide) hA w3 x3 (fun s s0 s1 => (x2 s s0 s1).2) f3 (by omega) (by omega) (by decide) (by decide)
  refine ⟨vc', vr', ?_, ?_, b3, fun a k h => (b4 a k h).trans (w1 a k (by omega) (by omega)), fun a k h h2 => (b5 a k h h2).trans (x1 a k (by omega) (by omega) h2)⟩
  · rw [f1, bd_s]; exact b1
  · rw [f2, bd_s]; exact b2
