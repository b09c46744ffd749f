/-! layer 2: a line in both -/
section LINEI
variable {g vc vr : V_} {L : Int → Int} {t m q p b i : Int}
theorem line_I (hw : WF_ g) (hC : C_ vc p g) (hD : D_ vr g) (ht : 0 ≤ t ∧ t < 8) (h : GI_ g L t m q vc vr) (hL : ∀ b, 0 ≤ b → b < g 0 0 → vr 843 b = L b ∧ r6_ (L b)) (hq : q ≤ 26) (hb : 0 ≤ b ∧ b < g 0 0) (hi : 0 ≤ i ∧ i < g 1 b) : ∃ vc' vr' m', fX10_addLine (200 + 75 * t) (p + 8 + (6 * b + i)) b (if g 11 38 = 1 then 1 else 0) vc = some (0, vc') ∧ fX12_addsLine 814 t b (48 * vr 814 18 + (6 * b + i)) vr = some (0, vr') ∧ GI_ g L t m' (q + 1) vc' vr' ∧ m ≤ m' ∧ Fg1_ t vc vc' ∧ Fg2_ t vr vr' := by
  have hn := hw.1
  obtain ⟨-, -, hln⟩ := hw.2 b hb.1 hb.2
  have hl6 := (hw.2 b hb.1 hb.2).1
  have hLN := hln i hi.1 hi.2
  obtain ⟨l1, l2, l3⟩ := LN_r hLN
  have hs0 := hD.1
  obtain ⟨⟨h1, h2, h3, h4⟩, ⟨h5, h5a, h5b⟩, h6, h7, ⟨h8, h9⟩, h10, h11⟩ := id h
  have hm : m < 34 := by omega
  obtain ⟨w, e1, w1, w2, w3, w4, w5, w6, w7, ⟨w8, w9, w10, w11⟩, w12⟩ := cline_pre hw hC ht h hm hb hi (if g 11 38 = 1 then 1 else 0)
  have R := rline_pre hw hD ht h hm hb hi (g 4 (6 * b + i))
  have hA : VA_ (if g 5 (6 * b + i) < 6 then vr 861 (g 5 (6 * b + i)) else g 5 (6 * b + i)) := as_VA l2 (fun r r0 r1 => (h6 r r0 r1).2)
  have hB : VA_ (if g 6 (6 * b + i) < 6 then vr 861 (g 6 (6 * b + i)) else g 6 (6 * b + i)) := as_VA l3 (fun r r0 r1 => (h6 r r0 r1).2)
  have hB20 : g 6 (6 * b + i) = 20 → (if g 6 (6 * b + i) < 6 then vr 861 (g 6 (6 * b + i)) else g 6 (6 * b + i)) = 20 := fun e => by rw [if_neg (by omega)]; exact e
  generalize (if g 5 (6 * b + i) < 6 then vr 861 (g 5 (6 * b + i)) else g 5 (6 * b + i)) = A at *
  generalize (if g 6 (6 * b + i) < 6 then vr 861 (g 6 (6 * b + i)) else g 6 (6 * b + i)) = B at *
  have hLI : ∀ s, (0 ≤ g 4 (6 * b + i) → 0 ≤ s ∧ s < 12) → (g 4 (6 * b + i) < 0 → s = g 4 (6 * b + i)) → LI_ (g 2 (6 * b + i)) (g 3 (6 * b + i)) s A B := fun s z1 z2 => by
    obtain ⟨o, -, -⟩ := hLN
    refine ⟨?_, hA, hB⟩
    rcases o with o | o | o
    · exact Or.inl ⟨o.1, o.2.1, o.2.2.1, z1 o.2.2.2.1⟩
    · exact Or.inr (Or.inl ⟨o.1, o.2.1, (z1 o.2.2.1).1, (z1 o.2.2.1).2, hB20 o.2.2.2.2⟩)
    · exact Or.inr (Or.inr ⟨o.1, o.2.1, (z2 (by omega)).trans o.2.2⟩)
  generalize er : g 4 (6 * b + i) = r at *
  -- not renamed
  have plain : (¬ (0 ≤ r ∧ g 11 38 = 1 ∧ vr 860 t < 6 ∧ bt_ (vc (200 + 75 * t) 17) r = true)) → fX12_addsLine 814 t b (48 * vr 814 18 + (6 * b + i)) vr = fX12_addsLine_49 814 t b (48 * vr 814 18 + (6 * b + i)) r vr → ∃ vc' vr' m', fX10_addLine (200 + 75 * t) (p + 8 + (6 * b + i)) b (if g 11 38 = 1 then 1 else 0) vc = some (0, vc') ∧ fX12_addsLine 814 t b (48 * vr 814 18 + (6 * b + i)) vr = some (0, vr') ∧ GI_ g L t m' (q + 1) vc' vr' ∧ m ≤ m' ∧ Fg1_ t vc vc' ∧ Fg2_ t vr vr' := fun hno hr => by
    obtain ⟨z, e2, z1, z2, z3, z4, z5, z6, z7, z8, z9, z10, z11, z12⟩ := R 0
    rw [hr]
    unfold fX12_addsLine_49
    rw [e2, if_pos rfl]
    unfold fX12_addsLine_158 fX12_addsLine_178
    rw [ck_t (by omega), lt_d, if_pos rfl]
    have cls : fX10_addLine (200 + 75 * t) (p + 8 + (6 * b + i)) b (if g 11 38 = 1 then 1 else 0) vc = if 0 ≤ r then some (0, up_ w (205 + 75 * t) r r) else some (0, w) := by
      rw [e1]
      by_cases c : 0 ≤ r
      · have e138 : fX10_addLine_138 (200 + 75 * t) r w = some (0, up_ w (205 + 75 * t) r r) := by
          unfold fX10_addLine_138
          rw [ck_t (by omega), lt_d, show 200 + 75 * t + 5 = 205 + 75 * t by omega]
        rw [if_pos c, if_pos c, e138]
        by_cases f : g 11 38 = 1
        · rw [if_pos f, if_neg n10_]
          have w5' : w (200 + 75 * t) 5 = vr 860 t := (w12 _ _ (by omega) (by omega) (by omega)).trans h5
          by_cases f2 : vr 860 t < 6
          · rw [if_neg (by omega), w12 (200 + 75 * t) 17 (by omega) (by omega) (by omega), bit_e (by omega) (by omega)]
            have f3 : bt_ (vc (200 + 75 * t) 17) r = false := by
              cases f4 : bt_ (vc (200 + 75 * t) 17) r
              · rfl
              · exact absurd ⟨c, f, f2, f4⟩ hno
            simp only [f3, Bool.false_eq_true, if_false]
            rw [if_neg (by decide)]
          · rw [if_pos (by omega)]
        · rw [if_neg f, if_pos rfl]
      · rw [if_neg c, if_neg c]
    rw [cls]
    have GA : ∀ wc wr : V_, (∀ a k, ¬ (a = 205 + 75 * t ∧ k = r) → wc a k = w a k) → (∀ a k, ¬ (a = 861 ∧ k = r) → ¬ (a = 854 ∧ k = 34 * t + m) → wr a k = z a k) → wr 854 (34 * t + m) = r → (0 ≤ r → wc (205 + 75 * t) r = r ∧ wr 861 r = r) → (r < 0 → ∀ k, wc (205 + 75 * t) k = w (205 + 75 * t) k ∧ wr 861 k = z 861 k) → GI_ g L t (m + 1) (q + 1) wc wr ∧ Fg1_ t vc wc ∧ Fg2_ t vr wr := fun wc wr f1 f2 f3 f4 f5 => by
      refine ⟨GI_add h (fun b b0 b1 => (hL b b0 b1).2) ?_ ?_ ?_ ?_ (fun s s0 s1 => ?_) (fun j k j0 j1 => ⟨?_, ?_⟩) (fun a j a0 a1 j0 j1 => ?_) ⟨?_, ?_, ?_, ?_, ?_, ?_, ?_, ?_, Or.inl ⟨?_, ?_, ?_, ?_, ?_⟩⟩ ?_ ?_ ?_ ?_ ?_ ?_, fun a k hh => ?_, fun a k q1 q2 q3 => ?_, fun a k q1 q2 q3 => ?_, fun k hh => ⟨?_, ?_⟩⟩
      · rw [f1 _ _ (by omega)]; exact w1
      · rw [f2 _ _ (by omega) (by omega)]; exact z1
      · rw [f2 _ _ (by omega) (by omega), z10 _ _ (by omega)]; omega
      · rw [f1 _ _ (by omega), f2 _ _ (by omega) (by omega), z10 _ _ (by omega), w12 _ _ (by omega) (by omega) (by omega)]; exact ⟨h5, h5a, h5b⟩
      · by_cases c : s = r
        · rw [c, (f4 (by omega)).1, (f4 (by omega)).2]
          omega
        · rw [f1 _ _ (by omega), f2 _ _ (by omega) (by omega), z10 _ _ (by omega), w12 _ _ (by omega) (by omega) (by omega)]
          exact h6 s s0 s1
      · rw [f1 _ _ (by omega), w12 _ _ (by omega) (by omega) (by omega)]
      · rw [f1 _ _ (by omega), w12 _ _ (by omega) (by omega) (by omega)]
      · rw [f2 _ _ (by omega) (by omega), z11 _ _ (by omega) a0 a1]
      · rw [f1 _ _ (by omega), f2 _ _ (by omega) (by omega), w2, z2]
      · rw [f1 _ _ (by omega), f2 _ _ (by omega) (by omega), w3, z3]
      · rw [f2 _ _ (by omega) (by omega), z3]; exact hb
      · rw [show 207 + 75 * t + 2 * m + 1 = 208 + 75 * t + 2 * m by omega, f1 _ _ (by omega), w9, f3]
      · rw [show 207 + 75 * t + 2 * m + 1 = 208 + 75 * t + 2 * m by omega, f1 _ _ (by omega), w10, f2 _ _ (by omega) (by omega), z7]
      · rw [show 207 + 75 * t + 2 * m + 1 = 208 + 75 * t + 2 * m by omega, f1 _ _ (by omega), w11, f2 _ _ (by omega) (by omega), z8]
      · rw [f2 _ _ (by omega) (by omega), z7]; exact hA
      · rw [f2 _ _ (by omega) (by omega), z8]; exact hB
      · rw [f2 _ _ (by omega) (by omega), z2]
      · rw [show 207 + 75 * t + 2 * m + 1 = 208 + 75 * t + 2 * m by omega, f1 _ _ (by omega), w8, f2 _ _ (by omega) (by omega), f2 _ _ (by omega) (by omega), z5, z6]
      · rw [f2 852 _ (by omega) (by omega), f2 853 _ (by omega) (by omega), f3, f2 855 _ (by omega) (by omega), f2 856 _ (by omega) (by omega), z5, z6, z7, z8]
        exact hLI r (fun _ => by omega) (fun _ => rfl)
      · rw [f2 851 _ (by omega) (by omega), f2 852 _ (by omega) (by omega), f2 853 _ (by omega) (by omega), z4, z5, z6]
      · rw [f1 _ _ (by omega), w5]
      · rw [f1 _ _ (by omega), w7]
      · rw [f1 _ _ (by omega), w6]
      · rw [f2 _ _ (by omega) (by omega), z2]; decide
      · rw [f1 _ _ (by omega), f2 _ _ (by omega) (by omega), z2, if_neg (by decide), w12 _ _ (by omega) (by omega) (by omega)]
      · rw [f1 _ _ (by omega), f2 849 _ (by omega) (by omega), z2, if_neg (by decide), w12 _ _ (by omega) (by omega) (by omega)]
      · rw [f1 _ _ (by omega), w12 _ _ (by omega) (by omega) (by omega)]
        unfold sp_
        rw [f2 849 _ (by omega) (by omega), z2, if_neg (by decide), Int.add_zero]
      · rw [f1 _ _ (by omega), w12 _ _ (by omega) (by omega) (by omega)]
      · rw [f2 _ _ (by omega) (by omega), z10 _ _ q1]
      · rw [f2 _ _ (by omega) (by omega), z11 _ _ (by omega) q1 q2]
      · rw [f2 _ _ (by omega) (by omega), z12 _ hh]
      · rw [f2 _ _ (by omega) (by omega), z10 _ _ (by omega)]
    by_cases c : 0 ≤ r
    · rw [if_pos c, if_neg (by omega), ck_t (by omega), ck_t (by omega), lt_d]
      try dsimp only [Int.reduceAdd]
      rw [up_s ⟨rfl, rfl⟩]
      obtain ⟨G1, G2, G3⟩ := GA (up_ w (205 + 75 * t) r r) (up_ (up_ z 854 (34 * t + m) r) 861 r r) (fun a k n => up_n n) (fun a k n n2 => by rw [up_n n, up_n n2]) (by rw [up_n (by omega), up_s ⟨rfl, rfl⟩]) (fun _ => ⟨up_s ⟨rfl, rfl⟩, up_s ⟨rfl, rfl⟩⟩) (fun n => absurd c (by omega))
      exact ⟨_, _, m + 1, rfl, rfl, G1, by omega, G2, G3⟩
    · rw [if_neg c, if_pos (by omega)]
      obtain ⟨G1, G2, G3⟩ := GA w (up_ z 854 (34 * t + m) r) (fun a k n => rfl) (fun a k n n2 => up_n n2) (up_s ⟨rfl, rfl⟩) (fun n => absurd n c) (fun _ k => ⟨rfl, up_n (by omega)⟩)
      exact ⟨_, _, m + 1, rfl, rfl, G1, by omega, G2, G3⟩
  -- the reference decides
  have ref : fX12_addsLine 814 t b (48 * vr 814 18 + (6 * b + i)) vr = if g 11 38 = 1 then (if r < 0 then fX12_addsLine_49 814 t b (48 * vr 814 18 + (6 * b + i)) r vr else (if 6 ≤ vr 860 t then fX12_addsLine_49 814 t b (48 * vr 814 18 + (6 * b + i)) r vr else bd_ (fX12_isWanted 814 t r vr) fun q66 => if q66.1 = 0 then fX12_addsLine_49 814 t b (48 * vr 814 18 + (6 * b + i)) r q66.2 else fX12_addsLine_50 814 t b (48 * vr 814 18 + (6 * b + i)) r 1 q66.2)) else fX12_addsLine_49 814 t b (48 * vr 814 18 + (6 * b + i)) r vr := by
    have dd := hD.2.2.2.1 (6 * b + i) (by omega) (by omega)
    have d38 : vr (814 + 24) 38 = g 11 38 := hD.2.2.2.2.2 38 (by decide) (by decide)
    have d29 : vr (814 + 15) (48 * vr 814 18 + (6 * b + i)) = r := dd.2.2.1.trans er
    unfold fX12_addsLine
    rw [ck_t (by omega), d29, lt_d]
    by_cases f : g 11 38 = 1
    · rw [if_pos (d38.trans f), if_pos f, ck_t ht]
      rfl
    · rw [if_neg (by rw [d38]; exact f), if_neg f]
  by_cases f : g 11 38 = 1
  · by_cases c : r < 0
    · exact plain (fun n => by omega) (by rw [ref, if_pos f, if_pos c])
    · by_cases f2 : 6 ≤ vr 860 t
      · exact plain (fun n => by omega) (by rw [ref, if_pos f, if_neg c, if_pos f2])
      · obtain ⟨zz, y1, y2⟩ := wanted_e (r := r) hw hD ht h2 ⟨h3, by omega⟩ (by omega) hL (fun j j0 j1 j2 => by
          obtain ⟨o1, o2, o3, o4, o5, o6, o7, o8, o⟩ := (h7 j j0 j1).1
          rcases o with ⟨o, -⟩ | ⟨o, -⟩ | ⟨-, -, -, -, -, -, p1, p2, p3, p4⟩ | ⟨o, -⟩
          · omega
          · omega
          · rw [p2] at p3 p4
            exact ⟨o3, p1, p3, p4⟩
          · omega)
        rw [← h11 r (by omega) (by omega)] at y2
        rcases y2 with ⟨y2, y3⟩ | ⟨y2, y3⟩
        · exact plain (fun n => y3 n.2.2.2) (by rw [ref, if_pos f, if_neg c, if_neg f2, y1, bd_s, if_pos y2])
        · obtain ⟨z, e2, z1, z2, z3, z4, z5, z6, z7, z8, z9, z10, z11, z12⟩ := R 1
          have w5' : w (200 + 75 * t) 5 = vr 860 t := (w12 _ _ (by omega) (by omega) (by omega)).trans h5
          rw [e1, ref]
          simp only [if_pos f]
          rw [if_neg c, if_neg f2, y1, bd_s]
          try dsimp only
          rw [if_neg (show ¬ zz = 0 by omega), e2, if_neg n10_, if_pos (show 0 ≤ r by omega), if_neg n10_, if_neg (show ¬ 6 ≤ w (200 + 75 * t) 5 by omega), if_pos (show bA_ (sR_ (w (200 + 75 * t) 17) r) 1 = 1 by rw [w12 (200 + 75 * t) 17 (by omega) (by omega) (by omega), bit_e (by omega) (by omega), y3]; rfl), w5', wr_id (show -2147483648 ≤ 6 + vr 860 t ∧ 6 + vr 860 t < 2147483648 by omega), lt_d, lt_d, ck_t (by omega), lt_d, lt_d, show 200 + 75 * t + 5 = 205 + 75 * t by omega, up_n (show ¬ (200 + 75 * t = 205 + 75 * t ∧ (5 : Int) = r) by omega), up_n (show ¬ (200 + 75 * t = 208 + 75 * t + 2 * m ∧ (5 : Int) = 1) by omega), w5', wr_id (show -2147483648 ≤ vr 860 t + 1 ∧ vr 860 t + 1 < 2147483648 by omega)]
          unfold fX12_addsLine_158 fX12_addsLine_178
          rw [ck_t (by omega), lt_d, if_neg (show ¬ r < 0 by omega), ck_t (by omega), ck_t (by omega), lt_d, if_neg n10_, ck_t ht, ck_t ht, lt_d]
          try dsimp only [Int.reduceAdd]
          rw [up_s (v := z) ⟨rfl, rfl⟩, up_n (show ¬ ((860 : Int) = 861 ∧ t = r) by omega), up_n (show ¬ ((860 : Int) = 854 ∧ t = 34 * t + m) by omega), z10 860 t (by omega), wr_id (show -2147483648 ≤ vr 860 t + 1 ∧ vr 860 t + 1 < 2147483648 by omega)]
          generalize eF : 6 + vr 860 t = F
          generalize eu : up_ (up_ (up_ w (208 + 75 * t + 2 * m) 1 F) (205 + 75 * t) r F) (200 + 75 * t) 5 (vr 860 t + 1) = u
          have u0 : ∀ a k, ¬ (a = 208 + 75 * t + 2 * m ∧ k = 1) → ¬ (a = 205 + 75 * t ∧ k = r) → ¬ (a = 200 + 75 * t ∧ k = 5) → u a k = w a k := fun a k n n2 n3 => by rw [← eu, up_n n3, up_n n2, up_n n]
          have u1 : u (208 + 75 * t + 2 * m) 1 = F := by rw [← eu, up_n (by omega), up_n (by omega), up_s ⟨rfl, rfl⟩]
          have u2 : u (205 + 75 * t) r = F := by rw [← eu, up_n (by omega), up_s ⟨rfl, rfl⟩]
          have u3 : u (200 + 75 * t) 5 = vr 860 t + 1 := by rw [← eu, up_s ⟨rfl, rfl⟩]
          clear eu
          generalize ex : up_ (up_ (up_ z 854 (34 * t + m) F) 861 r F) 860 t (vr 860 t + 1) = x
          have x0 : ∀ a k, ¬ (a = 854 ∧ k = 34 * t + m) → ¬ (a = 861 ∧ k = r) → ¬ (a = 860 ∧ k = t) → x a k = z a k := fun a k n n2 n3 => by rw [← ex, up_n n3, up_n n2, up_n n]
          have x1 : x 854 (34 * t + m) = F := by rw [← ex, up_n (by omega), up_n (by omega), up_s ⟨rfl, rfl⟩]
          have x2 : x 861 r = F := by rw [← ex, up_n (by omega), up_s ⟨rfl, rfl⟩]
          have x3 : x 860 t = vr 860 t + 1 := by rw [← ex, up_s ⟨rfl, rfl⟩]
          clear ex
          have G1 : GI_ g L t (m + 1) q u x := by
            refine GI_add h (fun b b0 b1 => (hL b b0 b1).2) ?_ ?_ ?_ ?_ (fun s s0 s1 => ?_) (fun j k j0 j1 => ⟨?_, ?_⟩) (fun a j a0 a1 j0 j1 => ?_) ⟨?_, ?_, ?_, ?_, ?_, ?_, ?_, ?_, Or.inl ⟨?_, ?_, ?_, ?_, ?_⟩⟩ ?_ ?_ ?_ ?_ ?_ ?_
            · rw [u0 _ _ (by omega) (by omega) (by omega)]; exact w1
            · rw [x0 _ _ (by omega) (by omega) (by omega)]; exact z1
            · omega
            · omega
            · by_cases c : s = r
              · rw [c, u2, x2]
                omega
              · rw [u0 _ _ (by omega) (by omega) (by omega), x0 _ _ (by omega) (by omega) (by omega), z10 _ _ (by omega), w12 _ _ (by omega) (by omega) (by omega)]
                exact h6 s s0 s1
            · rw [u0 _ _ (by omega) (by omega) (by omega), w12 _ _ (by omega) (by omega) (by omega)]
            · rw [u0 _ _ (by omega) (by omega) (by omega), w12 _ _ (by omega) (by omega) (by omega)]
            · rw [x0 _ _ (by omega) (by omega) (by omega), z11 _ _ (by omega) a0 a1]
            · rw [u0 _ _ (by omega) (by omega) (by omega), x0 _ _ (by omega) (by omega) (by omega), w2, z2]
            · rw [u0 _ _ (by omega) (by omega) (by omega), x0 _ _ (by omega) (by omega) (by omega), w3, z3]
            · rw [x0 _ _ (by omega) (by omega) (by omega), z3]; exact hb
            · rw [show 207 + 75 * t + 2 * m + 1 = 208 + 75 * t + 2 * m by omega, u1, x1]
            · rw [show 207 + 75 * t + 2 * m + 1 = 208 + 75 * t + 2 * m by omega, u0 _ _ (by omega) (by omega) (by omega), w10, x0 _ _ (by omega) (by omega) (by omega), z7]
            · rw [show 207 + 75 * t + 2 * m + 1 = 208 + 75 * t + 2 * m by omega, u0 _ _ (by omega) (by omega) (by omega), w11, x0 _ _ (by omega) (by omega) (by omega), z8]
            · rw [x0 _ _ (by omega) (by omega) (by omega), z7]; exact hA
            · rw [x0 _ _ (by omega) (by omega) (by omega), z8]; exact hB
            · rw [x0 _ _ (by omega) (by omega) (by omega), z2]
            · rw [show 207 + 75 * t + 2 * m + 1 = 208 + 75 * t + 2 * m by omega, u0 _ _ (by omega) (by omega) (by omega), w8, x0 852 _ (by omega) (by omega) (by omega), x0 853 _ (by omega) (by omega) (by omega), z5, z6]
            · rw [x0 852 _ (by omega) (by omega) (by omega), x0 853 _ (by omega) (by omega) (by omega), x1, x0 855 _ (by omega) (by omega) (by omega), x0 856 _ (by omega) (by omega) (by omega), z5, z6, z7, z8]
              exact hLI F (fun _ => by omega) (fun n => by omega)
            · rw [x0 851 _ (by omega) (by omega) (by omega), x0 852 _ (by omega) (by omega) (by omega), x0 853 _ (by omega) (by omega) (by omega), z4, z5, z6]
            · rw [u0 _ _ (by omega) (by omega) (by omega), w5]
            · rw [u0 _ _ (by omega) (by omega) (by omega), w7]
            · rw [u0 _ _ (by omega) (by omega) (by omega), w6]
            · rw [x0 _ _ (by omega) (by omega) (by omega), z2]; decide
            · rw [u0 _ _ (by omega) (by omega) (by omega), x0 849 _ (by omega) (by omega) (by omega), z2, if_neg (by decide), w12 _ _ (by omega) (by omega) (by omega)]
            · rw [u0 _ _ (by omega) (by omega) (by omega), x0 849 _ (by omega) (by omega) (by omega), z2, if_neg (by decide), w12 _ _ (by omega) (by omega) (by omega)]
            · rw [u0 _ _ (by omega) (by omega) (by omega), w12 _ _ (by omega) (by omega) (by omega)]
              unfold sp_
              rw [x0 849 _ (by omega) (by omega) (by omega), z2, if_neg (by decide), Int.add_zero]
          -- the copy
          obtain ⟨u', d1, d2, d3, d4, d5, d6, d7, d8, d9⟩ := cadd_e (v := u) (m := m + 1) (s := 1) (b := b) ht G1.1.1 (by omega)
          obtain ⟨x', k1, k2, k3, k4, k5, k6, k7, k8, k9, k10, k11, k12, k13⟩ := radd_e (v := x) (m := m + 1) (s := 1) (b := b) ht G1.1.2.1 (by omega)
          obtain ⟨u2', t1, t2, t3, t4, t5, t6⟩ := tell_e (207 + 75 * t + 2 * (m + 1) + 1) 6 r (bX_ F (-1)) 0 u'
          rw [d1, bd_s, k1, bd_s]
          try dsimp only
          rw [t1, bd_s, ck_t (by omega), lt_d, ck_t (by omega), ck_t (by omega), lt_d, ck_t (by omega), lt_d]
          have hF : x' 854 (34 * t + m) = F := (k12 _ _ (by omega) (by omega) (by omega)).trans x1
          rw [up_n (show ¬ ((854 : Int) = 851 ∧ _) by omega), hF]
          generalize ex : up_ (up_ (up_ x' 851 (34 * t + (m + 1)) 0) 855 (34 * t + (m + 1)) F) 854 (34 * t + (m + 1)) r = x2'
          have o0 : ∀ a k, ¬ ((a = 851 ∨ a = 855 ∨ a = 854) ∧ k = 34 * t + (m + 1)) → x2' a k = x' a k := fun a k n => by rw [← ex, up_n (by omega), up_n (by omega), up_n (by omega)]
          have o1 : x2' 851 (34 * t + (m + 1)) = 0 ∧ x2' 855 (34 * t + (m + 1)) = F ∧ x2' 854 (34 * t + (m + 1)) = r := by
            rw [← ex]
            simp (disch := omega) only [up_s, up_n, and_self]
          clear ex
          have hvl : bX_ F (-1) = vl_ F := by
            unfold vl_
            rw [if_pos (by omega), bX_m (show iR_ F by unfold iR_; omega)]
          refine ⟨u2', x2', m + 1 + 1, rfl, rfl, GI_add G1 (fun b b0 b1 => (hL b b0 b1).2) ?_ ?_ ?_ ?_ (fun s s0 s1 => ?_) (fun j k j0 j1 => ⟨?_, ?_⟩) (fun a j a0 a1 j0 j1 => ?_) ⟨?_, ?_, ?_, ?_, ?_, ?_, ?_, ?_, Or.inr (Or.inl ⟨?_, ?_, ?_, ?_, ?_, ?_, ?_, ?_⟩)⟩ ?_ ?_ ?_ ?_ ?_ ?_, by omega, fun a k hh => ?_, fun a k q1 q2 q3 => ?_, fun a k q1 q2 q3 => ?_, fun k hh => ⟨?_, ?_⟩⟩
          · rw [t6 _ _ (by omega)]; exact d2
          · rw [o0 _ _ (by omega)]; exact k2
          · rw [o0 _ _ (by omega), k11 _ _ (by omega)]; omega
          · rw [t6 _ _ (by omega), d9 _ _ (by omega) (by omega), o0 _ _ (by omega), k11 _ _ (by omega)]; omega
          · rw [t6 _ _ (by omega), d9 _ _ (by omega) (by omega), o0 _ _ (by omega), k11 _ _ (by omega)]
            exact G1.2.2.1 s s0 s1
          · rw [t6 _ _ (by omega), d9 _ _ (by omega) (by omega)]
          · rw [t6 _ _ (by omega), d9 _ _ (by omega) (by omega)]
          · rw [o0 _ _ (by omega), k12 _ _ (by omega) a0 a1]
          · rw [t6 _ _ (by omega), d3, o0 _ _ (by omega), k3]
          · rw [t6 _ _ (by omega), d4, o0 _ _ (by omega), k4]
          · rw [o0 _ _ (by omega), k4]; exact hb
          · rw [t3, o1.2.2]
          · rw [t4, o1.2.1, hvl]
          · rw [t5, o0 _ _ (by omega), k9]; rfl
          · rw [o1.2.1]; exact Or.inl (by omega)
          · rw [o0 _ _ (by omega), k9]; exact Or.inr (by decide)
          · rw [o0 _ _ (by omega), k3]
          · rw [t2]
          · rw [o0 _ _ (by omega), k5]
          · rw [o0 _ _ (by omega), k6]
          · rw [o1.2.2]; omega
          · rw [o0 _ _ (by omega), k9]
          · exact o1.1
          · rw [t6 _ _ (by omega), d6]
          · rw [t6 _ _ (by omega), d8]
          · rw [t6 _ _ (by omega), d7]
          · rw [o0 _ _ (by omega), k3]; decide
          · rw [t6 _ _ (by omega), d9 _ _ (by omega) (by omega), o0 849 _ (by omega), k3, if_neg (by decide)]
          · rw [t6 _ _ (by omega), d9 _ _ (by omega) (by omega), o0 849 _ (by omega), k3, if_neg (by decide)]
          · rw [t6 _ _ (by omega), d9 _ _ (by omega) (by omega)]
            unfold sp_
            rw [o0 849 _ (by omega), k3, if_neg (by decide), Int.add_zero]
          · rw [t6 _ _ (by omega), d9 _ _ (by omega) (by omega), u0 _ _ (by omega) (by omega) (by omega), w12 _ _ (by omega) (by omega) (by omega)]
          · rw [o0 _ _ (by omega), k11 _ _ (by omega), x0 _ _ (by omega) (by omega) (by omega), z10 _ _ q1]
          · rw [o0 _ _ (by omega), k12 _ _ (by omega) (by omega) (by omega), x0 _ _ (by omega) (by omega) (by omega), z11 _ _ (by omega) q1 q2]
          · rw [o0 _ _ (by omega), k13 _ hh, x0 _ _ (by omega) (by omega) (by omega), z12 _ hh]
          · rw [o0 _ _ (by omega), k11 _ _ (by omega), x0 _ _ (by omega) (by omega) (by omega), z10 _ _ (by omega)]
  · exact plain (fun n => f n.2.1) (by rw [ref, if_neg f])
end LINEI
