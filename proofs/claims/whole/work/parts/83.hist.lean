/-! layer 2: the histories -/
theorem cp_i {v : V_} {a sp b dp n d j : Int} (h : d = b ∧ dp ≤ j ∧ j < dp + n) : cp_ v a sp b dp n d j = v a (sp + (j - dp)) := if_pos h
theorem cp_o {v : V_} {a sp b dp n d j : Int} (h : ¬ (d = b ∧ dp ≤ j ∧ j < dp + n)) : cp_ v a sp b dp n d j = v d j := if_neg h
/-- places of the class's row in the reference's -/
def pm_ (k : Int) : Int := if k < 38 then k else if k = 46 then 38 else k + 1
theorem pm_b {k : Int} (h : 0 ≤ k ∧ k < 47) : 0 ≤ pm_ k ∧ pm_ k < 47 := by unfold pm_; split <;> (try split) <;> omega
/-- what holds of every row of the class -/
def RO_ (f : Int → Int) : Prop := (f 46 = 0 ∨ f 46 = 1) ∧ (∀ k, 0 ≤ k → k < 14 → iR_ (f k)) ∧ (∀ k, 14 ≤ k → k < 38 → 0 ≤ f k ∧ f k ≤ 1000000) ∧ (∀ k, 38 ≤ k → k < 42 → 1 ≤ f k ∧ f k ≤ 4) ∧ ∀ k, 42 ≤ k → k < 46 → 1 ≤ f k ∧ f k ≤ 6
theorem RO_eq {f g : Int → Int} (h : RO_ g) (e : ∀ k, 0 ≤ k → k < 47 → f k = g k) : RO_ f := by
  obtain ⟨h1, h2, h3, h4, h5⟩ := h
  refine ⟨by rw [e _ (by decide) (by decide)]; exact h1, fun k a b => ?_, fun k a b => ?_, fun k a b => ?_, fun k a b => ?_⟩ <;> rw [e _ (by omega) (by omega)]
  · exact h2 k a b
  · exact h3 k a b
  · exact h4 k a b
  · exact h5 k a b
def RW_ (vc : V_) (a : Int) (vr : V_) (b off : Int) : Prop := RO_ (vc a) ∧ ∀ k, 0 ≤ k → k < 47 → vr b (off + pm_ k) = vc a k
def RH_ (vc vr : V_) : Prop := (0 ≤ vc 142 4 ∧ vc 142 4 ≤ 40) ∧ (0 ≤ vc 142 3 ∧ vc 142 3 < 40) ∧ vr 814 77 = vc 142 4 ∧ ∀ m, 0 ≤ m → m < vc 142 4 → RW_ vc (144 + (vc 142 3 - vc 142 4 + 1 + m) % 40) vr 869 (47 * m)
def nt_ (v : V_) (q h : Int) : V_ := up_ (cp_ (up_ v 142 3 q) 141 0 (144 + q) 0 47) 142 4 h
theorem note_e {v : V_} {p h q h2 : Int} (e3 : v 142 3 = p) (e4 : v 142 4 = h) (hp : 0 ≤ p ∧ p < 40) (hh : 0 ≤ h ∧ h ≤ 40) (hq : q = (p + 1) % 40) (hh2 : h2 = if h = 40 then 40 else h + 1) : fX0_note 142 140 v = some (0, nt_ v q h2) := by
  unfold fX0_note
  have t : Int.tmod (p + 1) 40 = q := by rw [Int.tmod_eq_emod_of_nonneg (by omega)]; omega
  rw [e3, wr_id (by omega), t, lt_d, ck_t (by rw [up_s ⟨rfl, rfl⟩]; omega), up_s ⟨rfl, rfl⟩, lt_d]
  have a1 : (142 : Int) + 1 + (1 + 1 * q) = 144 + q := by omega
  have a2 : cp_ (up_ v 142 3 q) (140 + 1) 0 (144 + q) 0 47 142 4 = h := by rw [cp_o (by omega), up_n (by omega), e4]
  rw [a1, a2, wr_id (by omega), lt_d]
  have a3 : mn_ 40 (h + 1) = h2 := by
    rw [hh2]
    unfold mn_
    split <;> split <;> omega
  rw [a3]
  rfl
theorem note_T {vc vr vr1 : V_} (h : RH_ vc vr) (hw : RW_ vc 141 vr 837 0) (hr : ∀ b k, b ≠ 838 → vr1 b k = vr b k) : ∃ vc1 vr2, fX0_note 142 140 vc = some (0, vc1) ∧ fX12_records 814 vr1 = some (0, vr2) ∧ RH_ vc1 vr2 ∧ (∀ b k, ¬ (144 ≤ b ∧ b ≤ 183) → ¬ (b = 142 ∧ (k = 3 ∨ k = 4)) → vc1 b k = vc b k) ∧ (∀ b k, b ≠ 869 → b ≠ 837 → ¬ (b = 814 ∧ (k = 77 ∨ k = 69)) → vr2 b k = vr1 b k) ∧ vr2 814 69 = 0 ∧ ∀ k, 0 ≤ k → k < 47 → vr2 837 k = vr1 838 k := by
  obtain ⟨hh, hp, h77, hrow⟩ := h
  generalize e3 : vc 142 3 = p at hp hrow
  generalize e4 : vc 142 4 = n at hh h77 hrow
  have q0 : 0 ≤ (p + 1) % 40 ∧ (p + 1) % 40 < 40 := by omega
  have f77 : vr1 814 77 = n := (hr _ _ (by decide)).trans h77
  refine ⟨_, _, note_e e3 e4 hp hh rfl rfl, records_e f77 hh, ?_, ?_, ?_, ?_, ?_⟩
  · generalize eq : (p + 1) % 40 = q at q0
    have n3 : ∀ z, nt_ vc q z 142 3 = q := fun z => by
      unfold nt_
      rw [up_n (by omega), cp_o (by omega), up_s ⟨rfl, rfl⟩]
    have n4 : ∀ z, nt_ vc q z 142 4 = z := fun z => up_s ⟨rfl, rfl⟩
    have nr : ∀ z a k, 144 ≤ a → a ≤ 183 → a ≠ 144 + q → nt_ vc q z a k = vc a k := fun z a k a1 a2 a3 => by
      unfold nt_
      rw [up_n (by omega), cp_o (by omega), up_n (by omega)]
    have nq : ∀ z k, 0 ≤ k → k < 47 → nt_ vc q z (144 + q) k = vc 141 k := fun z k a1 a2 => by
      unfold nt_
      rw [up_n (by omega), cp_i ⟨rfl, a1, by omega⟩, up_n (by omega)]
      congr 1
      omega
    have k77 : ∀ v z, rc_ v z 814 77 = z + 1 := fun v z => by
      unfold rc_
      rw [up_n (by omega), cp_o (by omega), up_s ⟨rfl, rfl⟩]
    have r1 : ∀ v z j, 47 * z ≤ j → j < 47 * z + 47 → rc_ v z 869 j = v 837 (j - 47 * z) := fun v z j a1 a2 => by
      unfold rc_
      rw [up_n (by omega), cp_o (by omega), up_n (by omega), cp_i ⟨rfl, a1, a2⟩]
      congr 1
      omega
    have r2 : ∀ v z j, ¬ (47 * z ≤ j ∧ j < 47 * z + 47) → rc_ v z 869 j = v 869 j := fun v z j a1 => by
      unfold rc_
      rw [up_n (by omega), cp_o (by omega), up_n (by omega), cp_o (by omega)]
    by_cases c : n = 40
    · rw [if_pos c, if_pos c]
      refine ⟨by rw [n4]; omega, by rw [n3]; omega, by rw [n4, k77]; omega, fun m m0 m1 => ?_⟩
      rw [n4] at m1
      rw [n3, n4]
      by_cases cm : m = 39
      · have ea : (q - 40 + 1 + m) % 40 = q := by omega
        rw [ea]
        refine ⟨RO_eq hw.1 (fun k k0 k1 => nq _ _ k0 k1), fun k k0 k1 => ?_⟩
        have := pm_b ⟨k0, k1⟩
        rw [nq _ _ k0 k1, r1 _ _ _ (by omega) (by omega), up_n (by omega), cp_o (by omega), hr _ _ (by decide), ← hw.2 k k0 k1]
        congr 1
        omega
      · have ea : (q - 40 + 1 + m) % 40 = (p - n + 1 + (m + 1)) % 40 := by omega
        have eb : (q - 40 + 1 + m) % 40 ≠ q := by omega
        have o := hrow (m + 1) (by omega) (by omega)
        rw [← ea] at o
        refine ⟨RO_eq o.1 (fun k k0 k1 => nr _ _ _ (by omega) (by omega) (by omega)), fun k k0 k1 => ?_⟩
        have := pm_b ⟨k0, k1⟩
        rw [nr _ _ _ (by omega) (by omega) (by omega), r2 _ _ _ (by omega), up_n (by omega), cp_i ⟨rfl, by omega, by omega⟩, hr _ _ (by decide), ← o.2 k k0 k1]
        congr 1
        omega
    · rw [if_neg c, if_neg c]
      refine ⟨by rw [n4]; omega, by rw [n3]; omega, by rw [n4, k77], fun m m0 m1 => ?_⟩
      rw [n4] at m1
      rw [n3, n4]
      by_cases cm : m = n
      · have ea : (q - (n + 1) + 1 + m) % 40 = q := by omega
        rw [ea]
        refine ⟨RO_eq hw.1 (fun k k0 k1 => nq _ _ k0 k1), fun k k0 k1 => ?_⟩
        have := pm_b ⟨k0, k1⟩
        rw [nq _ _ k0 k1, r1 _ _ _ (by omega) (by omega), hr _ _ (by decide), ← hw.2 k k0 k1]
        congr 1
        omega
      · have ea : (q - (n + 1) + 1 + m) % 40 = (p - n + 1 + m) % 40 := by omega
        have eb : (q - (n + 1) + 1 + m) % 40 ≠ q := by omega
        have o := hrow m (by omega) (by omega)
        rw [← ea] at o
        refine ⟨RO_eq o.1 (fun k k0 k1 => nr _ _ _ (by omega) (by omega) (by omega)), fun k k0 k1 => ?_⟩
        have := pm_b ⟨k0, k1⟩
        rw [nr _ _ _ (by omega) (by omega) (by omega), r2 _ _ _ (by omega), hr _ _ (by decide), ← o.2 k k0 k1]
  · intro b k b1 b2
    unfold nt_
    rw [up_n (by omega), cp_o (by omega), up_n (by omega)]
  · intro b k b1 b2 b3
    split <;> unfold rc_
    · rw [up_n (by omega), cp_o (by omega), up_n (by omega), cp_o (by omega), up_n (by omega), cp_o (by omega)]
    · rw [up_n (by omega), cp_o (by omega), up_n (by omega), cp_o (by omega)]
  · split <;> exact up_s ⟨rfl, rfl⟩
  · intro k k0 k1
    split <;> unfold rc_
    · rw [up_n (by omega), cp_i ⟨rfl, k0, by omega⟩, up_n (by omega), cp_o (by omega), up_n (by omega), cp_o (by omega)]
      congr 1
      omega
    · rw [up_n (by omega), cp_i ⟨rfl, k0, by omega⟩, up_n (by omega), cp_o (by omega)]
      congr 1
      omega
