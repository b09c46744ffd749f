/-! layer 2: texts: bytes, letters, words -/
theorem bA255' : ∀ k : Nat, k < 256 → bA_ ((k : Int) - 128) 255 = if (k : Int) - 128 < 0 then (k : Int) + 128 else (k : Int) - 128 := by decide +kernel
theorem bA255 {b : Int} (h : -128 ≤ b ∧ b < 128) : bA_ b 255 = if b < 0 then b + 256 else b := by
  have := bA255' (b + 128).toNat (by omega)
  rw [show (((b + 128).toNat : Nat) : Int) = b + 128 by omega] at this
  rw [show b + 128 - 128 = b by omega] at this
  rw [this]
  split <;> omega
theorem wl_id {x : Int} (h : -9223372036854775808 ≤ x ∧ x < 9223372036854775808) : wl_ x = x := by unfold wl_; omega
theorem lc_0 {x y : Int} : lc_ x y = 0 ↔ x = y := by
  unfold lc_
  split
  · omega
  · split <;> omega
/-- lists of letters -/
def AL_ (l : List Int) : Prop := ∀ d ∈ l, 1 ≤ d ∧ d ≤ 26
theorem pw_ap (B : Int) (l : List Int) (d : Int) : pw_ B (l ++ [d]) = pw_ B l * B + d := by
  simp [pw_, List.foldl_append]
theorem pw_nil (B : Int) : pw_ B [] = 0 := rfl
theorem ls_end (l : List Int) : l = [] ∨ ∃ s d, l = s ++ [d] := by
  induction l with
  | nil => exact Or.inl rfl
  | cons a l ih =>
    rcases ih with rfl | ⟨s, d, rfl⟩
    · exact Or.inr ⟨[], a, rfl⟩
    · exact Or.inr ⟨a :: s, d, rfl⟩
theorem AL_ap {l : List Int} {d : Int} (h : AL_ (l ++ [d])) : AL_ l ∧ 1 ≤ d ∧ d ≤ 26 := ⟨fun x hx => h x (List.mem_append_left _ hx), h d (by simp)⟩
theorem AL_ap' {l : List Int} {d : Int} (h : AL_ l) (hd : 1 ≤ d ∧ d ≤ 26) : AL_ (l ++ [d]) := fun x hx => by
  rcases List.mem_append.mp hx with q | q
  · exact h x q
  · rw [List.mem_singleton.mp q]; exact hd
theorem pw_0 {B : Int} (hB : B = 27 ∨ B = 32) : ∀ (n : Nat) (l : List Int), l.length = n → AL_ l → 0 ≤ pw_ B l ∧ (l ≠ [] → 0 < pw_ B l) := by
  intro n
  induction n with
  | zero =>
    intro l hl h
    rw [List.length_eq_zero_iff.mp hl]
    exact ⟨by rw [pw_nil]; omega, fun q => absurd rfl q⟩
  | succ n ih =>
    intro l hl h
    rcases ls_end l with rfl | ⟨s, d, rfl⟩
    · simp at hl
    · obtain ⟨h1, h2⟩ := AL_ap h
      have := (ih s (by simpa using hl) h1).1
      rw [pw_ap]
      rcases hB with rfl | rfl <;> exact ⟨by omega, fun _ => by omega⟩
theorem pw_inj {B : Int} (hB : B = 27 ∨ B = 32) : ∀ (n : Nat) (l m : List Int), l.length = n → AL_ l → AL_ m → pw_ B l = pw_ B m → l = m := by
  intro n
  induction n with
  | zero =>
    intro l m hl h1 h2 e
    rw [List.length_eq_zero_iff.mp hl] at e ⊢
    rcases ls_end m with rfl | ⟨t, c, rfl⟩
    · rfl
    · have := (pw_0 hB _ _ rfl h2).2 (by simp)
      rw [pw_nil] at e
      omega
  | succ n ih =>
    intro l m hl h1 h2 e
    rcases ls_end l with rfl | ⟨s, d, rfl⟩
    · simp at hl
    · rcases ls_end m with rfl | ⟨t, c, rfl⟩
      · have := (pw_0 hB _ _ rfl h1).2 (by simp)
        rw [pw_nil] at e
        omega
      · obtain ⟨a1, a2⟩ := AL_ap h1
        obtain ⟨b1, b2⟩ := AL_ap h2
        rw [pw_ap, pw_ap] at e
        have e1 : pw_ B s = pw_ B t ∧ d = c := by
          rcases hB with rfl | rfl <;> omega
        rw [ih s t (by simpa using hl) a1 b1 e1.1, e1.2]
/-- a name in both -/
def NM_ (x y : Int) : Prop := ∃ l, AL_ l ∧ l ≠ [] ∧ x = pw_ 32 l ∧ y = pw_ 27 l
theorem NM_eq {x y x' y' : Int} (h : NM_ x y) (h' : NM_ x' y') : x = x' ↔ y = y' := by
  obtain ⟨l, a, -, rfl, rfl⟩ := h
  obtain ⟨m, b, -, rfl, rfl⟩ := h'
  constructor
  · intro e
    rw [pw_inj (Or.inr rfl) _ l m rfl a b e]
  · intro e
    rw [pw_inj (Or.inl rfl) _ l m rfl a b e]
theorem NM_n0 {x y : Int} (h : NM_ x y) : x ≠ 0 := by
  obtain ⟨l, a, n, rfl, rfl⟩ := h
  have := (pw_0 (B := 32) (Or.inr rfl) _ _ rfl a).2 n
  omega
/-- letters of a text, behind one another; digits -/
def li_ (B : Int → Int) (y : Int) : Nat → List Int
  | 0 => []
  | m + 1 => li_ B y m ++ [B (y + m) - 96]
def dgs_ (B : Int → Int) (y : Int) : Nat → Int
  | 0 => 0
  | m + 1 => dgs_ B y m * 10 + (B (y + m) - 48)
def Le_ (b : Int) : Prop := 97 ≤ b ∧ b ≤ 122
def Di_ (b : Int) : Prop := 48 ≤ b ∧ b ≤ 57
def Bk_ (b : Int) : Prop := b = 9 ∨ b = 10 ∨ b = 13 ∨ b = 32
def le1_ (b : Int) : Int := if 97 ≤ b ∧ b ≤ 122 then 1 else 0
def di1_ (b : Int) : Int := if 48 ≤ b ∧ b ≤ 57 then 1 else 0
def bk1_ (b : Int) : Int := if b = 9 ∨ b = 10 ∨ b = 13 ∨ b = 32 then 1 else 0
theorem le_y {b : Int} (h : Le_ b) : ¬ le1_ b = 0 := fun q => by rw [show le1_ b = 1 from if_pos h] at q; cases q
theorem le_n {b : Int} (h : ¬ Le_ b) : le1_ b = 0 := if_neg h
theorem di_y {b : Int} (h : Di_ b) : ¬ di1_ b = 0 := fun q => by rw [show di1_ b = 1 from if_pos h] at q; cases q
theorem di_n {b : Int} (h : ¬ Di_ b) : di1_ b = 0 := if_neg h
theorem bk_y {b : Int} (h : Bk_ b) : ¬ bk1_ b = 0 := fun q => by rw [show bk1_ b = 1 from if_pos h] at q; cases q
theorem bk_n {b : Int} (h : ¬ Bk_ b) : bk1_ b = 0 := if_neg h
theorem li_AL {B : Int → Int} {y : Int} : ∀ m : Nat, (∀ j, y ≤ j → j < y + m → Le_ (B j)) → AL_ (li_ B y m) := by
  intro m
  induction m with
  | zero => exact fun _ d hd => by cases hd
  | succ m ih =>
    intro h
    have := h (y + m) (by omega) (by omega)
    unfold Le_ at this
    exact AL_ap' (ih fun j j0 j1 => h j j0 (by omega)) (by omega)
theorem li_b {B : Int → Int} {y : Int} : ∀ m : Nat, (∀ j, y ≤ j → j < y + m → Le_ (B j)) → (0 ≤ pw_ 32 (li_ B y m) ∧ pw_ 32 (li_ B y m) < 32 ^ m) ∧ 0 ≤ pw_ 27 (li_ B y m) ∧ pw_ 27 (li_ B y m) < 27 ^ m := by
  intro m
  induction m with
  | zero => exact fun _ => by simp [li_, pw_nil]
  | succ m ih =>
    intro h
    have h1 := h (y + m) (by omega) (by omega)
    unfold Le_ at h1
    obtain ⟨h2, h3⟩ := ih fun j j0 j1 => h j j0 (by omega)
    rw [show li_ B y (m + 1) = li_ B y m ++ [B (y + m) - 96] from rfl, pw_ap, pw_ap, Int.pow_succ, Int.pow_succ]
    omega
theorem p32 : ∀ m : Nat, m ≤ 8 → (32 : Int) ^ m ≤ 1099511627776 ∧ (27 : Int) ^ m ≤ 1099511627776 := by decide
theorem dv_b {B : Int → Int} {y : Int} : ∀ m : Nat, (∀ j, y ≤ j → j < y + m → Di_ (B j)) → 0 ≤ dgs_ B y m ∧ dgs_ B y m < 10 ^ m := by
  intro m
  induction m with
  | zero => exact fun _ => by simp [dgs_]
  | succ m ih =>
    intro h
    have h1 := h (y + m) (by omega) (by omega)
    unfold Di_ at h1
    have h2 := ih fun j j0 j1 => h j j0 (by omega)
    rw [show dgs_ B y (m + 1) = dgs_ B y m * 10 + (B (y + m) - 48) from rfl, Int.pow_succ]
    omega
theorem p10 : ∀ m : Nat, m ≤ 4 → (10 : Int) ^ m ≤ 10000 := by decide
/-- a run of bytes of one kind -/
theorem run_ex (P : Int → Prop) (n : Int) : ∀ (d : Nat) (y : Int), y < n → (n - y).toNat = d → P y → ∃ m : Nat, 1 ≤ m ∧ y + m ≤ n ∧ (∀ j, y ≤ j → j < y + m → P j) ∧ (y + m = n ∨ ¬ P (y + m)) := by
  intro d
  induction d with
  | zero => intro y h h2; omega
  | succ d ih =>
    intro y h h2 hp
    by_cases c : y + 1 = n
    · exact ⟨1, by omega, by omega, fun j j0 j1 => by rw [show j = y by omega]; exact hp, Or.inl (by omega)⟩
    · by_cases c2 : P (y + 1)
      · obtain ⟨m, m1, m2, m3, m4⟩ := ih (y + 1) (by omega) (by omega) c2
        refine ⟨m + 1, by omega, by omega, fun j j0 j1 => ?_, ?_⟩
        · by_cases c3 : j = y
          · rw [c3]; exact hp
          · exact m3 j (by omega) (by omega)
        · rw [show y + ((m + 1 : Nat) : Int) = y + 1 + (m : Int) by omega]
          exact m4
      · exact ⟨1, by omega, by omega, fun j j0 j1 => by rw [show j = y by omega]; exact hp, Or.inr c2⟩
/-- words in both -/
theorem wd_ok : ∀ k : Nat, k < 17 → (∀ d ∈ wd_ k, 1 ≤ d ∧ d ≤ 26) ∧ wd_ k ≠ [] := by decide +kernel
theorem wd_in : ∀ k : Nat, k < 17 → ∀ j : Nat, j < 17 → wd_ k = wd_ j → k = j := by decide +kernel
/-- which word a list of letters is, or none -/
def WK_ (l : List Int) (k : Int) : Prop := (0 ≤ k ∧ k ≤ 17) ∧ ∀ i, 0 ≤ i → i < 17 → (l = wd_ i ↔ i = k)
theorem WK_ex (l : List Int) : ∃ k, WK_ l k := by
  by_cases c : ∃ k : Nat, k < 17 ∧ l = wd_ k
  · obtain ⟨k, k0, rfl⟩ := c
    refine ⟨k, by omega, fun i i0 i1 => ⟨fun e => ?_, fun e => by rw [e]⟩⟩
    have := wd_in k k0 i.toNat (by omega) (by rw [show ((i.toNat : Nat) : Int) = i by omega]; exact e)
    omega
  · refine ⟨17, by omega, fun i i0 i1 => ⟨fun e => absurd ⟨i.toNat, by omega, by rw [show ((i.toNat : Nat) : Int) = i by omega]; exact e⟩ c, fun e => by omega⟩⟩
theorem wd_eq {l : List Int} {B i : Int} (hB : B = 27 ∨ B = 32) (h : AL_ l) (i0 : 0 ≤ i) (i1 : i < 17) : pw_ B (wd_ i) = pw_ B l ↔ l = wd_ i := by
  have := (wd_ok i.toNat (by omega)).1
  rw [show ((i.toNat : Nat) : Int) = i by omega] at this
  exact ⟨fun e => (pw_inj hB _ _ _ rfl this h e).symm, fun e => by rw [e]⟩
theorem csort_e {v w : V_} {l : List Int} {k : Int} (hR : RN_ v w) (h : AL_ l) (hk : WK_ l k) : fX9_sortOfWord 4 (pw_ 32 l) v = some (k, v) := by
  unfold fX9_sortOfWord
  obtain ⟨s, e, -⟩ := lp_s (σ := Unit) (α := Option (Int × V_)) (F := fun n i _ => fX9_sortOfWord_2 n 4 (pw_ 32 l) i v) (K := fun _ => some (k, v)) (I := fun i _ => 0 ≤ i) (e := k) (fun n i s i0 ik => by
    refine ⟨(), ?_, by omega⟩
    have := hk.1
    rw [fX9_sortOfWord_2, if_neg (by omega), ck_t (by omega), if_neg (fun q => ?_), wr_id (by omega), lt_d]
    rw [lc_0, show (4 : Int) + 1 = 5 from rfl, (hR i i0 (by omega)).1, wd_eq (Or.inr rfl) h i0 (by omega), hk.2 i i0 (by omega)] at q
    omega) (fun n s i0 => by
    have := hk.1
    by_cases c : k = 17
    · rw [fX9_sortOfWord_2, if_pos (by omega), c]
    · rw [fX9_sortOfWord_2, if_neg (by omega), ck_t (by omega), if_pos]
      rw [lc_0, show (4 : Int) + 1 = 5 from rfl, (hR k i0 (by omega)).1, wd_eq (Or.inr rfl) h i0 (by omega), hk.2 k i0 (by omega)]) k.toNat fu_ 0 () (by omega) (by have := hk.1; omega) (by have := hk.1; unfold fu_; omega)
  exact e
theorem rsort_e {v w : V_} {l : List Int} {k y m : Int} (k7 : Int → Int → V_ → Option (Int × V_)) (hR : RN_ v w) (h : AL_ l) (hk : WK_ l k) : fX12_cut_146 k7 fu_ 814 y m (pw_ 27 l) 1 0 w = fX12_cut_179 k7 814 y m (pw_ 27 l) (if k < 17 then 20 + k else 1) w := by
  have hk0 := hk.1
  obtain ⟨s, e, e2⟩ := lp_s (σ := Int) (α := Option (Int × V_)) (F := fun n i s => fX12_cut_146 k7 n 814 y m (pw_ 27 l) s i w) (K := fun s => fX12_cut_179 k7 814 y m (pw_ 27 l) s w) (I := fun i s => 0 ≤ i ∧ s = if k < i then 20 + k else 1) (e := 17) (fun n i s hI i1 => by
    obtain ⟨i0, hs⟩ := hI
    have hh : lc_ (w (814 + 7) i) (pw_ 27 l) = 0 ↔ i = k := by
      rw [lc_0, show (814 : Int) + 7 = 821 from rfl, (hR i i0 (by omega)).2, wd_eq (Or.inl rfl) h i0 (by omega), hk.2 i i0 (by omega)]
    by_cases c : i = k
    · refine ⟨20 + k, ?_, by omega, by rw [if_pos (by omega)]⟩
      rw [fX12_cut_146, if_neg (by omega), ck_t (by omega), if_pos (hh.mpr c), wr_id (by omega), wr_id (by omega), lt_d, lt_d, c]
    · refine ⟨s, ?_, by omega, ?_⟩
      · rw [fX12_cut_146, if_neg (by omega), ck_t (by omega), if_neg (fun q => c (hh.mp q)), wr_id (by omega), lt_d]
      · rw [hs]
        by_cases c2 : k < i
        · rw [if_pos c2, if_pos (by omega)]
        · rw [if_neg c2, if_neg (by omega)]) (fun n s _ => by rw [fX12_cut_146, if_pos (by omega)]) 17 fu_ 0 1 ⟨by omega, by rw [if_neg (by omega)]⟩ (by omega) (by unfold fu_; omega)
  rw [e, e2.2]
