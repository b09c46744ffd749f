/-! layer 2: a trace left early, in both -/
theorem gone_early {g u w : V_} {L : Int → Int} {t m n p r x2 x3 : Int} (hw : WF_ g) (hg : RG_ g) (ht : 0 ≤ t ∧ t < 8) (hP : PT_ g L t m u w) (hB : BT_ g t n u w) (hD : D_ w g) (hq : LQ_ t m (w 858 (34 * t + r)) r u w) (h5 : u 807 5 = w 814 45) (hx : x2 = w 814 45) : ∃ u' w' nx, (bd_ (fX6_doCopied 807 (200 + 75 * t) r (up_ u 807 8 (wr_ (u 807 8 + 1)))) fun q23 => fX6_goThrough_50 807 (200 + 75 * t) p r q23.2) = some (0, u') ∧ tdl_ t x2 x3 (w 858 (34 * t + r)) r (w 850 (34 * t + r)) w = some (nx, w') ∧ u' 807 8 = wr_ (u 807 8 + 1) ∧ w' 814 76 = wr_ (w 814 76 + 1) ∧ u' 807 5 = w' 814 45 ∧ ((nx = -3 ∧ u' 807 4 = 1 ∧ u' 807 9 = -1 ∧ u' 807 6 = wr_ (u 807 6 + 1) ∧ w' 814 46 = w 814 46) ∨ ∃ i, (0 ≤ i ∧ i < n) ∧ u' 807 6 = wr_ (u 807 6 + (i + 1)) ∧ w' 814 46 = wr_ (wr_ (x3 + i) + 1) ∧ NX_ (g 0 0) (u' 807 9) nx ∧ RC_ u' 807 w' ∧ u' 807 4 = 0) ∧ (∀ a k, a ≠ 808 → a ≠ 809 → ¬ (a = 807 ∧ (k = 4 ∨ k = 5 ∨ k = 6 ∨ k = 8 ∨ k = 9)) → u' a k = u a k) ∧ ∀ a k, a ≠ 839 → a ≠ 840 → a ≠ 864 → a ≠ 865 → a ≠ 866 → a ≠ 868 → ¬ (a = 814 ∧ ((40 ≤ k ∧ k ≤ 42) ∨ k = 45 ∨ k = 46 ∨ k = 76)) → w' a k = w a k := by
  have hn := hw.1
  have hm := hP.1.1.2.2
  obtain ⟨r0, r2, -, hR, h4⟩ := hq
  have c3 := ((hP.2.2.2.2.2.2.1.1 r r0.1 r0.2).2)
  have it := (hP.2.1 r r0.1 r0.2).1
  obtain ⟨i, i0, i1, i2⟩ := hP.2.2.2.2.2.2.2.2.2.2.1 r r0.1 r0.2
  obtain ⟨b1, b2, b3, b4⟩ := hB
  rw [b3] at i1
  have hb : 0 ≤ w 850 (34 * t + r) ∧ w 850 (34 * t + r) < g 0 0 := it.2.2.1
  have i845 : w 845 (w 850 (34 * t + r)) = i := by rw [i2]; exact (b4 i i0 i1).2.2
  obtain ⟨-, e2, -, -, -, -, -, -, o⟩ := it
  have fld : u (207 + 75 * t + 2 * r) 5 = g 10 (2 * w 850 (34 * t + r) + w 857 (34 * t + r)) ∧ (0 ≤ w 857 (34 * t + r) ∧ w 857 (34 * t + r) < 2) ∧ 0 ≤ u (207 + 75 * t + 2 * r) 5 ∧ u (207 + 75 * t + 2 * r) 5 < g 0 0 := by
    rcases o with ⟨o, -⟩ | ⟨o, -⟩ | ⟨-, -, -, -, -, -, o1, o2, o3⟩ | ⟨o, -⟩
    · omega
    · omega
    · exact ⟨o2, o1, o3⟩
    · omega
  -- both begin
  unfold tdl_
  rw [lt_d, lt_d, wr_id (show -2147483648 ≤ w 858 (34 * t + r) + 1 ∧ w 858 (34 * t + r) + 1 < 2147483648 by omega)]
  have r1 : ∀ a k, ¬ (a = 814 ∧ (k = 45 ∨ k = 76)) → up_ (up_ w 814 76 (wr_ (w 814 76 + 1))) 814 45 (wr_ (up_ w 814 76 (wr_ (w 814 76 + 1)) 814 45 + (w 858 (34 * t + r) + 1))) a k = w a k := fun a k h => by rw [up_n (by omega), up_n (by omega)]
  have r3 : up_ (up_ w 814 76 (wr_ (w 814 76 + 1))) 814 45 (wr_ (up_ w 814 76 (wr_ (w 814 76 + 1)) 814 45 + (w 858 (34 * t + r) + 1))) 814 45 = wr_ (w 814 45 + (w 858 (34 * t + r) + 1)) := by rw [up_s ⟨rfl, rfl⟩, up_n (by omega)]
  have r4 : up_ (up_ w 814 76 (wr_ (w 814 76 + 1))) 814 45 (wr_ (up_ w 814 76 (wr_ (w 814 76 + 1)) 814 45 + (w 858 (34 * t + r) + 1))) 814 76 = wr_ (w 814 76 + 1) := by rw [up_n (by omega), up_s ⟨rfl, rfl⟩]
  generalize up_ (up_ w 814 76 (wr_ (w 814 76 + 1))) 814 45 (wr_ (up_ w 814 76 (wr_ (w 814 76 + 1)) 814 45 + (w 858 (34 * t + r) + 1))) = w1 at r1 r3 r4 ⊢
  have s1 : ∀ a k, ¬ (a = 807 ∧ k = 8) → up_ u 807 8 (wr_ (u 807 8 + 1)) a k = u a k := fun a k h => up_n h
  have s2 : up_ u 807 8 (wr_ (u 807 8 + 1)) 807 8 = wr_ (u 807 8 + 1) := up_s ⟨rfl, rfl⟩
  generalize up_ u 807 8 (wr_ (u 807 8 + 1)) = u1 at s1 s2 ⊢
  have hP1 : PT_ g L t m u1 w1 := PT_g ht hP (fun a k h => s1 _ _ (by omega)) (fun a k h h2 => r1 _ _ (by omega))
  have hD1 : D_ w1 g := D_fr hD (r1 _ _ (by omega)) (fun a k a0 a1 => r1 _ _ (by omega)) (fun k _ _ => r1 _ _ (by omega))
  have hR1 : RC_ u1 807 w1 := RC_fr hR (fun k => s1 _ _ (by omega)) (fun k => s1 _ _ (by omega)) (fun k => r1 _ _ (by omega)) (fun k => r1 _ _ (by omega))
  obtain ⟨u2, w2, ok, d1, d2, d3, d4, d5, d6⟩ := copied_T hg ht hP1 hD1 hR1 r0 ((r1 849 _ (by omega)).trans r2) (by rw [s1 807 5 (by omega), r1 858 _ (by omega), r3, h5])
  rw [d1, bd_s, d2, bd_s]
  dsimp only
  have D4 : ∀ a k, a ≠ 839 → a ≠ 840 → a ≠ 864 → a ≠ 865 → a ≠ 866 → a ≠ 868 → ¬ (a = 814 ∧ ((40 ≤ k ∧ k ≤ 42) ∨ k = 45 ∨ k = 76)) → w2 a k = w a k := fun a k h1 h2 h3 h4 h5 h6 h7 => (d4 a k h1 h2 h3 h4 h5 h6 (by omega)).trans (r1 a k (by omega))
  have D5 : ∀ a k, a ≠ 808 → a ≠ 809 → ¬ (a = 807 ∧ (k = 4 ∨ k = 5 ∨ k = 8 ∨ k = 9)) → u2 a k = u a k := fun a k h1 h2 h3 => (d5 a k h1 h2 (by omega)).trans (s1 a k (by omega))
  have u28 : u2 807 8 = wr_ (u 807 8 + 1) := (d5 _ _ (by omega) (by omega) (by omega)).trans s2
  have w276 : w2 814 76 = wr_ (w 814 76 + 1) := (d4 _ _ (by omega) (by omega) (by omega) (by omega) (by omega) (by omega) (by omega)).trans r4
  unfold fX6_goThrough_50
  rcases d6 with ⟨k1, k2, k3, k4⟩ | ⟨k1, k2, k3, k4⟩
  · have z4 : u2 807 4 = 0 := by rw [k2, s1 _ _ (by omega)]; exact h4
    rw [if_neg (show ¬ ok = 0 by omega), if_neg (show ¬ u2 807 4 = 1 by omega), if_neg (show ¬ r = -1 by omega), ck_t (by omega), show 200 + 75 * t + 2 + (5 + 2 * r) = 207 + 75 * t + 2 * r by omega]
    have eb : u2 (207 + 75 * t + 2 * r) 2 = w 850 (34 * t + r) := (D5 _ _ (by omega) (by omega) (by omega)).trans e2
    rw [eb, blocksTo_e (n := n) (i0 := i) b1.2 ((D5 _ _ (by omega) (by omega) (by omega)).trans b2) (fun j j0 j1 => by
      rw [D5 _ _ (by omega) (by omega) (by omega), (b4 j j0 j1).1]
      constructor
      · intro z
        have := (b4 j j0 j1).2.2
        rw [z, i845] at this
        exact this.symm
      · intro z
        rw [z, i2]) ⟨i0, i1⟩, bd_s, lt_d, ck_t (by omega), lt_d]
    dsimp only
    have E5 : up_ u2 807 6 (wr_ (u2 807 6 + (i + 1))) (207 + 75 * t + 2 * r) 5 = g 10 (2 * w 850 (34 * t + r) + w 857 (34 * t + r)) := by
      rw [up_n (by omega), D5 _ _ (by omega) (by omega) (by omega)]
      exact fld.1
    rw [E5]
    have tgt := fld.2.2
    rw [fld.1] at tgt
    -- the reference
    rw [ck_t (by omega), lt_d, wr_id (show -2147483648 ≤ 34 * t ∧ 34 * t < 2147483648 by omega), wr_id (show -2147483648 ≤ 34 * t + r ∧ 34 * t + r < 2147483648 by omega), ck_t (by omega)]
    simp only [Int.reduceAdd]
    have E45 : w2 845 (w 850 (34 * t + r)) = i := (D4 _ _ (by omega) (by omega) (by omega) (by omega) (by omega) (by omega) (by omega)).trans i845
    rw [E45]
    have hD2 : D_ (up_ w2 814 46 (wr_ (wr_ (x3 + i) + 1))) g := D_fr hD ((up_n (by omega)).trans (D4 _ _ (by omega) (by omega) (by omega) (by omega) (by omega) (by omega) (by omega))) (fun a k a0 a1 => (up_n (by omega)).trans (D4 _ _ (by omega) (by omega) (by omega) (by omega) (by omega) (by omega) (by omega))) (fun k _ _ => (up_n (by omega)).trans (D4 _ _ (by omega) (by omega) (by omega) (by omega) (by omega) (by omega) (by omega)))
    have E57 : up_ w2 814 46 (wr_ (wr_ (x3 + i) + 1)) 857 (34 * t + r) = w 857 (34 * t + r) := (up_n (by omega)).trans (D4 _ _ (by omega) (by omega) (by omega) (by omega) (by omega) (by omega) (by omega))
    rw [E57, wayTo_e hD2 (by omega) fld.2.1, bd_s]
    dsimp only
    have ez : ∀ k, up_ (up_ u2 807 6 (wr_ (u2 807 6 + (i + 1)))) 807 9 (g 10 (2 * w 850 (34 * t + r) + w 857 (34 * t + r))) 807 k = if k = 9 then g 10 (2 * w 850 (34 * t + r) + w 857 (34 * t + r)) else if k = 6 then wr_ (u 807 6 + (i + 1)) else u2 807 k := fun k => by
      by_cases q : k = 9
      · rw [if_pos q, up_s ⟨rfl, q⟩]
      · rw [if_neg q, up_n (by omega)]
        by_cases q2 : k = 6
        · rw [if_pos q2, up_s ⟨rfl, q2⟩, D5 _ _ (by omega) (by omega) (by omega)]
        · rw [if_neg q2, up_n (by omega)]
    have ey : ∀ a k, ¬ (a = 807 ∧ (k = 6 ∨ k = 9)) → up_ (up_ u2 807 6 (wr_ (u2 807 6 + (i + 1)))) 807 9 (g 10 (2 * w 850 (34 * t + r) + w 857 (34 * t + r))) a k = u2 a k := fun a k h => by rw [up_n (by omega), up_n (by omega)]
    generalize up_ (up_ u2 807 6 (wr_ (u2 807 6 + (i + 1)))) 807 9 (g 10 (2 * w 850 (34 * t + r) + w 857 (34 * t + r))) = u3 at ez ey ⊢
    refine ⟨u3, _, _, rfl, rfl, (ez 8).trans u28, (up_n (by omega)).trans w276, ?_, Or.inr ⟨i, ⟨i0, i1⟩, ez 6, up_s ⟨rfl, rfl⟩, Or.inr ⟨?_, ?_, ez 9⟩, RC_fr d3 (fun k => ey _ _ (by omega)) (fun k => ey _ _ (by omega)) (fun k => up_n (by omega)) (fun k => up_n (by omega)), (ez 4).trans z4⟩, fun a k h1 h2 h3 => ?_, fun a k h1 h2 h3 h4 h5 h6 h7 => ?_⟩
    · rw [up_n (by omega)]
      exact (ez 5).trans k4
    · rw [ez 9]; exact tgt.1
    · rw [ez 9]; exact tgt.2
    · rw [ey _ _ (by omega)]
      exact D5 a k h1 h2 (by omega)
    · rw [up_n (by omega)]
      exact D4 a k h1 h2 h3 h4 h5 h6 (by omega)
  · rw [if_pos k1, if_pos k2, lt_d, lt_d]
    have e26 : u2 807 6 = u 807 6 := D5 _ _ (by omega) (by omega) (by omega)
    refine ⟨_, _, _, rfl, rfl, (up_n (by omega)).trans u28, (up_n (by omega)).trans w276, ?_, Or.inl ⟨rfl, (up_n (by omega)).trans k2, (up_n (by omega)).trans k3, ?_, ?_⟩, fun a k h1 h2 h3 => ?_, fun a k h1 h2 h3 h4 h5 h6 h7 => ?_⟩
    · rw [up_n (by omega), k4, s1 _ _ (by omega), up_s ⟨rfl, rfl⟩, hx]
      exact h5
    · rw [up_s ⟨rfl, rfl⟩, e26]
    · rw [up_n (by omega)]
      exact D4 _ _ (by omega) (by omega) (by omega) (by omega) (by omega) (by omega) (by omega)
    · rw [up_n (by omega)]
      exact D5 a k h1 h2 (by omega)
    · rw [up_n (by omega)]
      exact D4 a k h1 h2 h3 h4 h5 h6 (by omega)
