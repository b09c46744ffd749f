/-! layer 2: the cycles of a trace, in both -/
def Gk_ (vc u : V_) : Prop := ∀ a k, a ≠ 808 → a ≠ 809 → a ≠ 812 → a ≠ 813 → ¬ (a = 807 ∧ (k = 4 ∨ k = 9 ∨ k = 10 ∨ k = 11)) → u a k = vc a k
def Gl_ (vr w : V_) : Prop := ∀ a k, a ≠ 839 → a ≠ 840 → ¬ (864 ≤ a ∧ a ≤ 868) → ¬ (a = 814 ∧ 40 ≤ k ∧ k ≤ 42) → w a k = vr a k
/-- the way of the end, in both -/
def EQ_ (t m : Int) (u w : V_) : Prop := ∃ x y, u 807 10 = ew_ (w 852 (34 * t + (m - 1))) x y ∧ w 868 (m - 1) = if w 852 (34 * t + (m - 1)) = 2 then -1 else ew_ (w 852 (34 * t + (m - 1))) x y
/-- what holds as cycle c begins, at place a of the order -/
def FI_ (t m c a : Int) (u w : V_) : Prop := RC_ u 807 w ∧ u 807 4 = 0 ∧ HT_ t m w u w ∧ (∀ j, 0 ≤ j → j < m → c ≤ w 858 (34 * t + j) → w 867 j = 0) ∧ (0 ≤ a ∧ a ≤ m) ∧ (∀ q, 0 ≤ q → q < a → w 858 (34 * t + u (203 + 75 * t) q) < c) ∧ (∀ q, a ≤ q → q < m → c ≤ w 858 (34 * t + u (203 + 75 * t) q)) ∧ (c = w 858 (34 * t + (m - 1)) + 1 → EQ_ t m u w)
/-- the trace is left at item r -/
def tdl_ (t x2 x3 x4 r y30 : Int) (v : V_) : Option (Int × V_) :=
  lt_ (up_ v 814 76 (wr_ ((v 814 76) + 1))) fun v39 =>
  lt_ (up_ v39 814 45 (wr_ ((v39 814 45) + (wr_ (x4 + 1))))) fun v40 =>
  bd_ (fX12_copiedDone 814 t r v40) fun q41 =>
  if q41.1 = 0 then (
    lt_ (up_ q41.2 814 45 x2) fun v49 =>
    some ((-3), v49))
  else (
    ck_ (0 ≤ y30 ∧ y30 < 8) (
    lt_ (up_ q41.2 814 46 (wr_ ((wr_ (x3 + (q41.2 (814 + 31) y30))) + 1))) fun v45 =>
    ck_ (0 ≤ wr_ ((wr_ (34 * t)) + r) ∧ wr_ ((wr_ (34 * t)) + r) < 272) (
    bd_ (fX12_wayTo 814 y30 (v45 (814 + 43) (wr_ ((wr_ (34 * t)) + r))) v45) fun q48 =>
    some (q48.1, q48.2))))
/-- the trace is gone through -/
def tde_ (t x3 y : Int) (q8 : Int × V_) : Option (Int × V_) :=
  lt_ (up_ q8.2 814 45 (wr_ (y + q8.1))) fun v9 =>
  ck_ (0 ≤ t ∧ t < 8) (
  lt_ (up_ v9 814 46 (wr_ (x3 + (v9 (814 + 33) t)))) fun v12 =>
  ck_ (0 ≤ t ∧ t < 8) (
  lt_ (wr_ ((v12 (814 + 34) t) - 1)) fun y15 =>
  ck_ (0 ≤ y15 ∧ y15 < 34) (
  if 0 ≤ (v12 (814 + 54) y15) then (
    ck_ (0 ≤ wr_ ((wr_ (34 * t)) + y15) ∧ wr_ ((wr_ (34 * t)) + y15) < 272) (
    ck_ (0 ≤ y15 ∧ y15 < 34) (
    bd_ (fX12_wayTo 814 (v12 (814 + 36) (wr_ ((wr_ (34 * t)) + y15))) (v12 (814 + 54) y15) v12) fun q23 =>
    some (q23.1, q23.2))))
  else (
    some ((-2), v12)))))
/-- the reference's cycle, with what follows -/
def tdb_ (k57 : Int → V_ → Option (Int × V_)) (t x2 x3 x4 : Int) (v : V_) : Option (Int × V_) :=
  bd_ (fX12_cycleDone 814 t x4 v) fun q24 =>
  if q24.1 = 0 then (
    some ((-3), q24.2))
  else (
    bd_ (fX12_splitIn 814 t x4 q24.2) fun q26 =>
    if 0 ≤ q26.1 then (
      ck_ (0 ≤ wr_ ((wr_ (34 * t)) + q26.1) ∧ wr_ ((wr_ (34 * t)) + q26.1) < 272) (
      lt_ (q26.2 (814 + 36) (wr_ ((wr_ (34 * t)) + q26.1))) fun y30 =>
      ck_ (0 ≤ q26.1 ∧ q26.1 < 34) (
      ck_ (0 ≤ wr_ ((wr_ (34 * t)) + q26.1) ∧ wr_ ((wr_ (34 * t)) + q26.1) < 272) (
      if (q26.2 (814 + 54) q26.1) = (q26.2 (814 + 43) (wr_ ((wr_ (34 * t)) + q26.1))) then (
        tdl_ t x2 x3 x4 q26.1 y30 q26.2)
      else (
        bd_ (fX12_hasHeld 814 t q26.1 q26.2) fun q36 =>
        if q36.1 = 0 then (
          lt_ (wr_ (x4 + 1)) fun y38 =>
          k57 y38 q36.2)
        else (
          some ((-3), q36.2))))))) 
    else (
      lt_ (wr_ (x4 + 1)) fun y50 =>
      k57 y50 q26.2))
theorem td57_e (n : Nat) (t x2 x3 c : Int) (v : V_) : fX12_traceDone_57 (n + 1) 814 t x2 x3 c v = bd_ (fX12_lengthOf 814 t v) fun q6 => if q6.1 ≤ c then bd_ (fX12_lengthOf 814 t q6.2) fun q8 => tde_ t x3 (q6.2 814 45) q8 else tdb_ (fun y w => fX12_traceDone_57 n 814 t x2 x3 y w) t x2 x3 c q6.2 := by
  rw [fX12_traceDone_57]
  rfl
theorem GP_fr {t m c a e : Int} {vc vr wc wr : V_} (h : GP_ t m c a e vc vr) (h1 : ∀ q, wc (203 + 75 * t) q = vc (203 + 75 * t) q) (h2 : ∀ k, wr 858 k = vr 858 k) : GP_ t m c a e wc wr := by
  unfold GP_
  simp only [h1, h2]
  exact h
theorem HT_fr {t m : Int} {vr0 wr0 u u2 w w2 : V_} (h : HT_ t m vr0 u w) (h0 : ∀ k, wr0 849 k = vr0 849 k) (h1 : u2 807 11 = u 807 11) (h2 : ∀ k, w2 867 k = w 867 k) : HT_ t m wr0 u2 w2 := by
  unfold HT_
  rw [h1]
  refine ⟨h.1, fun k k0 => (h.2 k k0).trans ⟨?_, ?_⟩⟩
  · rintro ⟨j, j0, j1, j2, j3⟩
    exact ⟨j, j0, j1, by rw [h2]; exact j2, LS_fr j3 fun i _ _ => h0 _⟩
  · rintro ⟨j, j0, j1, j2, j3⟩
    exact ⟨j, j0, j1, by rw [h2] at j2; exact j2, LS_fr j3 fun i _ _ => (h0 _).symm⟩
/-- behind a cycle that goes on -/
theorem next_T {g vc vr u u2 w : V_} {L : Int → Int} {t m c a e : Int} (ht : 0 ≤ t ∧ t < 8) (hP : PT_ g L t m vc vr) (hG : GP_ t m c a e vc vr) (hY : CY_ t m c a e vc vr u w) (hD : DI_ t a e vc vr u u2) (h4 : u2 807 4 = 0) : FI_ t m (c + 1) e u2 w ∧ Gk_ vc u2 ∧ Gl_ vr w := by
  obtain ⟨y1, y2, y3, y4, y5, y6⟩ := hY
  obtain ⟨d1, -, d3, -⟩ := hD
  have hm := hP.1.1.2.2
  have e849 : ∀ k, w 849 k = vr 849 k := fun k => y5 _ _ (by omega) (by omega) (by omega) (by omega)
  have e858 : ∀ k, w 858 k = vr 858 k := fun k => y5 _ _ (by omega) (by omega) (by omega) (by omega)
  have e852 : ∀ k, w 852 k = vr 852 k := fun k => y5 _ _ (by omega) (by omega) (by omega) (by omega)
  have eo : ∀ q, u2 (203 + 75 * t) q = vc (203 + 75 * t) q := fun q => (d1 _ _ (by omega)).trans (y4 _ _ (by omega) (by omega) (by omega) (by omega) (by omega))
  refine ⟨⟨RC_fr y1 (fun k => d1 _ _ (by omega)) (fun k => d1 _ _ (by omega)) (fun _ => rfl) (fun _ => rfl), h4, HT_fr y2 e849 (d1 _ _ (by omega)) (fun _ => rfl), fun j j0 j1 jc => ?_, ⟨by have := hG.1; omega, hG.1.2.2⟩, fun q q0 q1 => ?_, fun q q0 q1 => ?_, fun hc => ?_⟩, fun b k h1 h2 h3 h5 h6 => ?_, y5⟩
  · rw [e858] at jc
    exact y3 j j0 j1 (by omega)
  · rw [eo, e858]
    rcases (by omega : q < a ∨ a ≤ q) with z | z
    · have := hG.2.1 q q0 z
      omega
    · have := hG.2.2.1 q z q1
      omega
  · rw [eo, e858]
    have := hG.2.2.2 q q0 q1
    omega
  · rw [e858] at hc
    obtain ⟨q, q0, q1, q2⟩ := GP_mem hP hG (j := m - 1) (by omega) (by omega) (by omega)
    have k3 : vr 849 (34 * t + (m - 1)) = 3 := (hP.2.1 (m - 1) (by omega) (by omega)).2.2.1.2 rfl
    rcases d3 with ⟨-, d3⟩ | ⟨q', q0', q1', q3', d4⟩
    · exact absurd (by rw [q2]; exact k3) (d3 q q0 q1)
    · have o := (hP.2.2.2.2.2.2.2.1.1 q' (by have := hG.1.1; omega) (by have := hG.1.2.2; omega)).1
      have e' : vc (203 + 75 * t) q' = m - 1 := (hP.2.1 _ o.1 o.2).2.2.1.1 q3'
      have nl : ¬ iln_ vr (34 * t + vc (203 + 75 * t) q') := by
        intro z
        have z' : vr 849 (34 * t + vc (203 + 75 * t) q') = 0 ∨ vr 849 (34 * t + vc (203 + 75 * t) q') = 1 := z
        omega
      obtain ⟨v1, v2⟩ := y6 q' q0' q1' nl
      rw [e'] at v1 v2
      unfold EQ_
      rw [e852]
      exact ⟨_, _, d4.trans v1, v2⟩
  · rw [d1 _ _ (by omega)]
    exact y4 b k h1 h2 h3 h5 (by omega)
