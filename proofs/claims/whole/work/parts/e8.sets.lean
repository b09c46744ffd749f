/-! layer 2: a cycle's items set -/
/-- what an item sets: a register, 100 + a cell, or -1 -/
def tg_ (r c : Int) : Int := if c < 0 then (if r < 0 then -1 else r) else 100 + c
def sv_ (v : V_) (ra ca z : Int) : Int := if z < 100 then v ra z else v ca (z - 100)
def zs_ (z : Int) : Prop := (0 ≤ z ∧ z < 12) ∨ (100 ≤ z ∧ z < 108)
theorem se_sv {v : V_} {ra ca r c d z : Int} (hn : ra ≠ ca) (hz : zs_ z) (hr : r < 12) : sv_ (se_ v ra ca r c d) ra ca z = if z = tg_ r c then d else sv_ v ra ca z := by
  unfold sv_ se_ tg_
  unfold zs_ at hz
  by_cases c1 : c < 0
  · rw [if_pos c1, if_pos c1]
    by_cases c2 : r < 0
    · rw [if_pos c2, if_pos c2, if_neg (show ¬ z = -1 by omega)]
    · rw [if_neg c2, if_neg c2]
      by_cases c3 : z = r
      · rw [if_pos (show z < 100 by omega), if_pos c3, up_s ⟨rfl, c3⟩]
      · rw [if_neg c3, up_n (by omega), up_n (by omega)]
  · rw [if_neg c1, if_neg c1]
    by_cases c3 : z = 100 + c
    · rw [if_neg (show ¬ z < 100 by omega), if_pos c3, up_s ⟨rfl, by omega⟩]
    · rw [if_neg c3]
      by_cases c4 : z < 100
      · rw [if_pos c4, if_pos c4, up_n (by omega)]
      · rw [if_neg c4, if_neg c4, up_n (by omega)]
def tk_ (vr : V_) (k : Int) : Int := tg_ (vr 854 k) (fc_ vr k)
theorem tk_u {g vc vr : V_} {L : Int → Int} {t m : Int} (hP : PT_ g L t m vc vr) {i j z : Int} (hi : 0 ≤ i ∧ i < m) (hj : 0 ≤ j ∧ j < m) (li : iln_ vr (34 * t + i)) (lj : iln_ vr (34 * t + j)) (hc : vr 858 (34 * t + i) = vr 858 (34 * t + j)) (hz : zs_ z) (ei : tk_ vr (34 * t + i) = z) (ej : tk_ vr (34 * t + j) = z) : i = j := by
  have key : ∀ i j, 0 ≤ i → i < j → j < m → iln_ vr (34 * t + i) → iln_ vr (34 * t + j) → tk_ vr (34 * t + i) = z → tk_ vr (34 * t + j) = z → vr 858 (34 * t + i) < vr 858 (34 * t + j) := by
    intro i j i0 ij j1 li lj ei ej
    unfold tk_ tg_ at ei ej
    unfold zs_ at hz
    have Li := (IE_line (hP.2.1 i i0 (by omega)).1 li).1.2.1
    have Lj := (IE_line (hP.2.1 j (by omega) j1).1 lj).1.2.1
    have Oi := (hP.2.1 i i0 (by omega)).1.2.2.2.2.2.2.2.2
    have Oj := (hP.2.1 j (by omega) j1).1.2.2.2.2.2.2.2.2
    by_cases c1 : fc_ vr (34 * t + i) < 0
    · rw [if_pos c1] at ei
      by_cases c2 : fc_ vr (34 * t + j) < 0
      · rw [if_pos c2] at ej
        by_cases d1 : vr 854 (34 * t + i) < 0
        · rw [if_pos d1] at ei; omega
        · rw [if_neg d1] at ei
          by_cases d2 : vr 854 (34 * t + j) < 0
          · rw [if_pos d2] at ej; omega
          · rw [if_neg d2] at ej
            exact one_set hP i0 ij j1 (by omega) (by omega)
      · rw [if_neg c2] at ej
        split at ei <;> omega
    · rw [if_neg c1] at ei
      by_cases c2 : fc_ vr (34 * t + j) < 0
      · rw [if_pos c2] at ej
        split at ej <;> omega
      · rw [if_neg c2] at ej
        have s1 : vr 852 (34 * t + i) = 2 := by
          refine Classical.byContradiction fun n => c1 ?_
          unfold fc_ dc_
          rw [if_neg n]
          decide
        have s2 : vr 852 (34 * t + j) = 2 := by
          refine Classical.byContradiction fun n => c2 ?_
          unfold fc_ dc_
          rw [if_neg n]
          decide
        have k1 : vr 849 (34 * t + i) = 0 := by
          rcases Oi with ⟨o, -⟩ | ⟨o, -, o2, -⟩ | ⟨o, -⟩ | ⟨o, -⟩
          · exact o
          · omega
          · unfold iln_ at li; omega
          · unfold iln_ at li; omega
        have k2 : vr 849 (34 * t + j) = 0 := by
          rcases Oj with ⟨o, -⟩ | ⟨o, -, o2, -⟩ | ⟨o, -⟩ | ⟨o, -⟩
          · exact o
          · omega
          · unfold iln_ at lj; omega
          · unfold iln_ at lj; omega
        exact one_store hP i0 ij j1 ⟨k1, s1⟩ ⟨k2, s2⟩
  rcases (by omega : i < j ∨ i = j ∨ j < i) with w | w | w
  · have := key i j hi.1 w hj.2 li lj ei ej
    omega
  · exact w
  · have := key j i hj.1 w hi.2 lj li ej ei
    omega
/-- a slot behind the cycle's items, those of P done -/
def SD_ (t c m : Int) (vr : V_) (P : Int → Prop) (z x y : Int) : Prop := (∃ j, P j ∧ iln_ vr (34 * t + j) ∧ tk_ vr (34 * t + j) = z ∧ y = fd_ vr (34 * t + j)) ∨ ((∀ j, P j → ¬ (iln_ vr (34 * t + j) ∧ tk_ vr (34 * t + j) = z)) ∧ y = x)
theorem SD_u {g vc vr : V_} {L : Int → Int} {t m c : Int} (hP : PT_ g L t m vc vr) {P Q : Int → Prop} (hp : ∀ j, P j → 0 ≤ j ∧ j < m ∧ vr 858 (34 * t + j) = c) (he : ∀ j, P j ↔ Q j) {z x y y' : Int} (hz : zs_ z) (h : SD_ t c m vr P z x y) (h' : SD_ t c m vr Q z x y') : y = y' := by
  rcases h with ⟨j, j1, j2, j3, j4⟩ | ⟨n, e⟩
  · rcases h' with ⟨i, i1, i2, i3, i4⟩ | ⟨n', e'⟩
    · have a := hp j j1
      have b := hp i ((he i).2 i1)
      have := tk_u hP ⟨a.1, a.2.1⟩ ⟨b.1, b.2.1⟩ j2 i2 (a.2.2.trans b.2.2.symm) hz j3 i3
      rw [j4, i4, this]
    · exact absurd ⟨j2, j3⟩ (n' j ((he j).1 j1))
  · rcases h' with ⟨i, i1, i2, i3, i4⟩ | ⟨n', e'⟩
    · exact absurd ⟨i2, i3⟩ (n i ((he i).2 i1))
    · rw [e, e']
