/-! layer 2: what the law asks of class and reference, call by call -/
theorem ck_t {α : Type} {P : Prop} [Decidable P] {x : Option α} (h : P) : ck_ P x = x := if_pos h
theorem bd_s {α β : Type} (a : α) (f : α → Option β) : bd_ (some a) f = f a := rfl
theorem lt_d {α β : Type} (x : α) (f : α → β) : lt_ x f = f x := rfl
theorem if_y {α : Type} {P : Prop} [Decidable P] {x y : α} (h : P) : (if P then x else y) = x := if_pos h
theorem if_n {α : Type} {P : Prop} [Decidable P] {x y : α} (h : ¬ P) : (if P then x else y) = y := if_neg h
theorem up_s {v : V_} {a k x b j : Int} (h : b = a ∧ j = k) : up_ v a k x b j = x := if_pos h
theorem up_n {v : V_} {a k x b j : Int} (h : ¬ (b = a ∧ j = k)) : up_ v a k x b j = v b j := if_neg h
theorem fu_ge (k : Nat) (h : k ≤ 100000) : ∃ N, fu_ = N + k := ⟨100000 - k, by unfold fu_; omega⟩
/-- the class's memory, and the reference's, as before -/
def Fc_ (u w : V_) : Prop := ∀ a k, 814 ≤ a → w a k = u a k
def Fr_ (u w : V_) : Prop := ∀ a k, a < 814 → w a k = u a k
/-- a call of both over two memories that are told of each other by R: the same answer, R again -/
def Tw_ (R : V_ → V_ → Prop) (fc fr : V_ → Option (Int × V_)) : Prop := ∀ vc vr, R vc vr → ∃ r vc' vr', fc vc = some (r, vc') ∧ fr vr = some (r, vr') ∧ R vc' vr' ∧ Fc_ vc vc' ∧ Fr_ vr vr'
/-- R speaks of the class's cells in the first memory and of the reference's in the second alone -/
def Lc_ (R : V_ → V_ → Prop) : Prop := ∀ vc vr wc wr : V_, R vc vr → (∀ a k, a < 814 → wc a k = vc a k) → (∀ a k, 814 ≤ a → wr a k = vr a k) → R wc wr
theorem tw_law {R : V_ → V_ → Prop} {fc fr : V_ → Option (Int × V_)} (hl : Lc_ R) (T : Tw_ R fc fr) {v : V_} (h : R v v) : ∃ r v1 v2, fc v = some (r, v1) ∧ fr v1 = some (r, v2) ∧ R v2 v2 := by
  obtain ⟨r, v1, w1, a1, -, -, a4, -⟩ := T v v h
  obtain ⟨r2, v2, w2, b1, b2, b3, -, b5⟩ := T v v1 (hl _ _ _ _ h (fun _ _ _ => rfl) (fun a k q => a4 a k q))
  rw [a1] at b1
  obtain ⟨rfl, rfl⟩ := Prod.mk.inj (Option.some.inj b1)
  exact ⟨r, v1, w2, a1, b2, hl _ _ _ _ b3 (fun a k q => b5 a k q) (fun _ _ _ => rfl)⟩
def iR_ (x : Int) : Prop := -2147483648 ≤ x ∧ x ≤ 2147483647
theorem bA31 (x : Int) : 0 ≤ bA_ x 31 ∧ bA_ x 31 ≤ 31 := by
  unfold bA_
  generalize Int32.ofInt x = y
  have h : (y &&& Int32.ofInt 31).toBitVec.toNat = y.toBitVec.toNat % 32 := by
    show (y.toBitVec &&& 31#32).toNat = _
    rw [BitVec.toNat_and]
    exact Nat.and_two_pow_sub_one_eq_mod _ 5
  have h2 : (y &&& Int32.ofInt 31).toInt = ((y.toBitVec.toNat % 32 : Nat) : Int) := by
    show (y &&& Int32.ofInt 31).toBitVec.toInt = _
    rw [BitVec.toInt_eq_toNat_of_lt (by rw [h]; omega), h]
  rw [h2]
  omega
/-- all calls -/
def All_ (R : V_ → V_ → Prop) : Prop :=
  (∀ x1 x2 x3 x4 x5, iR_ x1 → iR_ x2 → iR_ x3 → iR_ x4 → iR_ x5 → Tw_ R (fX11_feed 1 x1 x2 x3 x4 x5) (fX12_feed 814 x1 x2 x3 x4 x5)) ∧
  (∀ x1, iR_ x1 → Tw_ R (fX11_back 1 x1) (fX12_back 814 x1)) ∧
  (Tw_ R (fX11_read 1) (fX12_read 814)) ∧
  (Tw_ R (fX11_place 1) (fX12_place 814)) ∧
  (∀ x1, iR_ x1 → Tw_ R (fX11_reg 1 x1) (fX12_reg 814 x1)) ∧
  (∀ x1, iR_ x1 → Tw_ R (fX11_cell 1 x1) (fX12_cell 814 x1)) ∧
  (∀ x1 x2, iR_ x1 → iR_ x2 → Tw_ R (fX11_kind 1 x1 x2) (fX12_kind 814 x1 x2)) ∧
  (∀ x1 x2, iR_ x1 → iR_ x2 → Tw_ R (fX11_block 1 x1 x2) (fX12_block 814 x1 x2)) ∧
  (∀ x1 x2, iR_ x1 → iR_ x2 → Tw_ R (fX11_gone 1 x1 x2) (fX12_gone 814 x1 x2)) ∧
  (∀ x1 x2, iR_ x1 → iR_ x2 → Tw_ R (fX11_set 1 x1 x2) (fX12_set 814 x1 x2)) ∧
  (∀ x1 x2, iR_ x1 → iR_ x2 → Tw_ R (fX11_put 1 x1 x2) (fX12_put 814 x1 x2)) ∧
  (Tw_ R (fX11_run 1) (fX12_run 814)) ∧
  (Tw_ R (fX11_clear 1) (fX12_clear 814)) ∧
  (∀ x1, x1 = 0 ∨ x1 = 1 → Tw_ R (fX11_rename 1 x1) (fX12_rename 814 x1)) ∧
  (∀ x1 x2 x3, iR_ x1 → iR_ x2 → iR_ x3 → Tw_ R (fX11_units 1 x1 x2 x3) (fX12_units 814 x1 x2 x3)) ∧
  (Tw_ R (fX11_undo 1) (fX12_undo 814)) ∧
  (Tw_ R (fX11_traces 1) (fX12_traces 814)) ∧
  (∀ x1 x2, iR_ x1 → iR_ x2 → Tw_ R (fX11_trace 1 x1 x2) (fX12_trace 814 x1 x2)) ∧
  (∀ x1 x2, iR_ x1 → iR_ x2 → Tw_ R (fX11_member 1 x1 x2) (fX12_member 814 x1 x2)) ∧
  (∀ x1 x2 x3, iR_ x1 → iR_ x2 → iR_ x3 → Tw_ R (fX11_item 1 x1 x2 x3) (fX12_item 814 x1 x2 x3)) ∧
  (∀ x1 x2 x3, iR_ x1 → iR_ x2 → iR_ x3 → Tw_ R (fX11_needs 1 x1 x2 x3) (fX12_needs 814 x1 x2 x3)) ∧
  (∀ x1 x2 x3, iR_ x1 → iR_ x2 → iR_ x3 → Tw_ R (fX11_copied 1 x1 x2 x3) (fX12_copied 814 x1 x2 x3)) ∧
  (∀ x1 x2 x3, iR_ x1 → iR_ x2 → iR_ x3 → Tw_ R (fX11_busy 1 x1 x2 x3) (fX12_busy 814 x1 x2 x3)) ∧
  (∀ x1, iR_ x1 → Tw_ R (fX11_slow 1 x1) (fX12_slow 814 x1)) ∧
  (∀ x1, iR_ x1 → Tw_ R (fX11_fast 1 x1) (fX12_fast 814 x1)) ∧
  (Tw_ R (fX11_agrees 1) (fX12_agrees 814)) ∧
  (∀ x1, iR_ x1 → Tw_ R (fX11_left 1 x1) (fX12_left 814 x1)) ∧
  (∀ x1, iR_ x1 → Tw_ R (fX11_growth 1 x1) (fX12_growth 814 x1)) ∧
  (∀ x1, iR_ x1 → Tw_ R (fX11_saved 1 x1) (fX12_saved 814 x1)) ∧
  (∀ x1, iR_ x1 → Tw_ R (fX11_hold 1 x1) (fX12_hold 814 x1)) ∧
  (∀ x1, iR_ x1 → Tw_ R (fX11_restore 1 x1) (fX12_restore 814 x1)) ∧
  (∀ x1, iR_ x1 → Tw_ R (fX11_count 1 x1) (fX12_count 814 x1))
section LAWOK
variable {R : V_ → V_ → Prop} {xs : Int → Int} {L i : Int} {v : V_}
theorem zfL_176 (hl : Lc_ R) (T : All_ R) (hx : ∀ j, iR_ (xs j)) (hi : 0 ≤ i ∧ i + 6 ≤ L ∧ L ≤ 3072) (h : R v v) (k : Int → V_ → Option (Int × V_)) : ∃ v2, R v2 v2 ∧ fL_176 xs L k i v = k (i + 6) v2 := by
  obtain ⟨r, v1, v2, e1, e2, hR⟩ := tw_law hl (T.1 (xs (i + 1)) (xs (i + 2)) (xs (i + 3)) (xs (i + 4)) (xs (i + 5)) (hx _) (hx _) (hx _) (hx _) (hx _)) h
  refine ⟨v2, hR, ?_⟩
  unfold fL_176
  simp (disch := omega) only [↓ck_t, wr_id, e1, e2, ↓bd_s, ↓lt_d, ↓reduceIte]
theorem zfL_239 (hl : Lc_ R) (T : All_ R) (hx : ∀ j, iR_ (xs j)) (hi : 0 ≤ i ∧ i + 6 ≤ L ∧ L ≤ 3072) (h : R v v) (k : Int → V_ → Option (Int × V_)) : ∃ v2, R v2 v2 ∧ fL_239 xs L k i v = k (i + 6) v2 := by
  obtain ⟨r, v1, v2, e1, e2, hR⟩ := tw_law hl (T.2.1 (xs (i + 1)) (hx _)) h
  refine ⟨v2, hR, ?_⟩
  unfold fL_239
  simp (disch := omega) only [↓ck_t, wr_id, e1, e2, ↓bd_s, ↓lt_d, ↓reduceIte]
theorem zfL_262 (hl : Lc_ R) (T : All_ R) (hx : ∀ j, iR_ (xs j)) (hi : 0 ≤ i ∧ i + 6 ≤ L ∧ L ≤ 3072) (h : R v v) (k : Int → V_ → Option (Int × V_)) : ∃ v2, R v2 v2 ∧ fL_262 xs L k i v = k (i + 6) v2 := by
  obtain ⟨r, v1, v2, e1, e2, hR⟩ := tw_law hl (T.2.2.1) h
  refine ⟨v2, hR, ?_⟩
  unfold fL_262
  simp (disch := omega) only [↓ck_t, wr_id, e1, e2, ↓bd_s, ↓lt_d, ↓reduceIte]
theorem zfL_275 (hl : Lc_ R) (T : All_ R) (hx : ∀ j, iR_ (xs j)) (hi : 0 ≤ i ∧ i + 6 ≤ L ∧ L ≤ 3072) (h : R v v) (k : Int → V_ → Option (Int × V_)) : ∃ v2, R v2 v2 ∧ fL_275 xs L k i v = k (i + 6) v2 := by
  obtain ⟨r, v1, v2, e1, e2, hR⟩ := tw_law hl (T.2.2.2.1) h
  refine ⟨v2, hR, ?_⟩
  unfold fL_275
  simp (disch := omega) only [↓ck_t, wr_id, e1, e2, ↓bd_s, ↓lt_d, ↓reduceIte]
theorem zfL_288 (hl : Lc_ R) (T : All_ R) (hx : ∀ j, iR_ (xs j)) (hi : 0 ≤ i ∧ i + 6 ≤ L ∧ L ≤ 3072) (h : R v v) (k : Int → V_ → Option (Int × V_)) : ∃ v2, R v2 v2 ∧ fL_288 xs L k i v = k (i + 6) v2 := by
  obtain ⟨r, v1, v2, e1, e2, hR⟩ := tw_law hl (T.2.2.2.2.1 (xs (i + 1)) (hx _)) h
  refine ⟨v2, hR, ?_⟩
  unfold fL_288
  simp (disch := omega) only [↓ck_t, wr_id, e1, e2, ↓bd_s, ↓lt_d, ↓reduceIte]
theorem zfL_311 (hl : Lc_ R) (T : All_ R) (hx : ∀ j, iR_ (xs j)) (hi : 0 ≤ i ∧ i + 6 ≤ L ∧ L ≤ 3072) (h : R v v) (k : Int → V_ → Option (Int × V_)) : ∃ v2, R v2 v2 ∧ fL_311 xs L k i v = k (i + 6) v2 := by
  obtain ⟨r, v1, v2, e1, e2, hR⟩ := tw_law hl (T.2.2.2.2.2.1 (xs (i + 1)) (hx _)) h
  refine ⟨v2, hR, ?_⟩
  unfold fL_311
  simp (disch := omega) only [↓ck_t, wr_id, e1, e2, ↓bd_s, ↓lt_d, ↓reduceIte]
theorem zfL_334 (hl : Lc_ R) (T : All_ R) (hx : ∀ j, iR_ (xs j)) (hi : 0 ≤ i ∧ i + 6 ≤ L ∧ L ≤ 3072) (h : R v v) (k : Int → V_ → Option (Int × V_)) : ∃ v2, R v2 v2 ∧ fL_334 xs L k i v = k (i + 6) v2 := by
  obtain ⟨r, v1, v2, e1, e2, hR⟩ := tw_law hl (T.2.2.2.2.2.2.1 (xs (i + 1)) (xs (i + 2)) (hx _) (hx _)) h
  refine ⟨v2, hR, ?_⟩
  unfold fL_334
  simp (disch := omega) only [↓ck_t, wr_id, e1, e2, ↓bd_s, ↓lt_d, ↓reduceIte]
theorem zfL_367 (hl : Lc_ R) (T : All_ R) (hx : ∀ j, iR_ (xs j)) (hi : 0 ≤ i ∧ i + 6 ≤ L ∧ L ≤ 3072) (h : R v v) (k : Int → V_ → Option (Int × V_)) : ∃ v2, R v2 v2 ∧ fL_367 xs L k i v = k (i + 6) v2 := by
  obtain ⟨r, v1, v2, e1, e2, hR⟩ := tw_law hl (T.2.2.2.2.2.2.2.1 (xs (i + 1)) (xs (i + 2)) (hx _) (hx _)) h
  refine ⟨v2, hR, ?_⟩
  unfold fL_367
  simp (disch := omega) only [↓ck_t, wr_id, e1, e2, ↓bd_s, ↓lt_d, ↓reduceIte]
theorem zfL_400 (hl : Lc_ R) (T : All_ R) (hx : ∀ j, iR_ (xs j)) (hi : 0 ≤ i ∧ i + 6 ≤ L ∧ L ≤ 3072) (h : R v v) (k : Int → V_ → Option (Int × V_)) : ∃ v2, R v2 v2 ∧ fL_400 xs L k i v = k (i + 6) v2 := by
  obtain ⟨r, v1, v2, e1, e2, hR⟩ := tw_law hl (T.2.2.2.2.2.2.2.2.1 (xs (i + 1)) (xs (i + 2)) (hx _) (hx _)) h
  refine ⟨v2, hR, ?_⟩
  unfold fL_400
  simp (disch := omega) only [↓ck_t, wr_id, e1, e2, ↓bd_s, ↓lt_d, ↓reduceIte]
theorem zfL_433 (hl : Lc_ R) (T : All_ R) (hx : ∀ j, iR_ (xs j)) (hi : 0 ≤ i ∧ i + 6 ≤ L ∧ L ≤ 3072) (h : R v v) (k : Int → V_ → Option (Int × V_)) : ∃ v2, R v2 v2 ∧ fL_433 xs L k i v = k (i + 6) v2 := by
  obtain ⟨r, v1, v2, e1, e2, hR⟩ := tw_law hl (T.2.2.2.2.2.2.2.2.2.1 (xs (i + 1)) (xs (i + 2)) (hx _) (hx _)) h
  refine ⟨v2, hR, ?_⟩
  unfold fL_433
  simp (disch := omega) only [↓ck_t, wr_id, e1, e2, ↓bd_s, ↓lt_d, ↓reduceIte]
theorem zfL_466 (hl : Lc_ R) (T : All_ R) (hx : ∀ j, iR_ (xs j)) (hi : 0 ≤ i ∧ i + 6 ≤ L ∧ L ≤ 3072) (h : R v v) (k : Int → V_ → Option (Int × V_)) : ∃ v2, R v2 v2 ∧ fL_466 xs L k i v = k (i + 6) v2 := by
  obtain ⟨r, v1, v2, e1, e2, hR⟩ := tw_law hl (T.2.2.2.2.2.2.2.2.2.2.1 (xs (i + 1)) (xs (i + 2)) (hx _) (hx _)) h
  refine ⟨v2, hR, ?_⟩
  unfold fL_466
  simp (disch := omega) only [↓ck_t, wr_id, e1, e2, ↓bd_s, ↓lt_d, ↓reduceIte]
theorem zfL_499 (hl : Lc_ R) (T : All_ R) (hx : ∀ j, iR_ (xs j)) (hi : 0 ≤ i ∧ i + 6 ≤ L ∧ L ≤ 3072) (h : R v v) (k : Int → V_ → Option (Int × V_)) : ∃ v2, R v2 v2 ∧ fL_499 xs L k i v = k (i + 6) v2 := by
  obtain ⟨r, v1, v2, e1, e2, hR⟩ := tw_law hl (T.2.2.2.2.2.2.2.2.2.2.2.1) h
  refine ⟨v2, hR, ?_⟩
  unfold fL_499
  simp (disch := omega) only [↓ck_t, wr_id, e1, e2, ↓bd_s, ↓lt_d, ↓reduceIte]
theorem zfL_512 (hl : Lc_ R) (T : All_ R) (hx : ∀ j, iR_ (xs j)) (hi : 0 ≤ i ∧ i + 6 ≤ L ∧ L ≤ 3072) (h : R v v) (k : Int → V_ → Option (Int × V_)) : ∃ v2, R v2 v2 ∧ fL_512 xs L k i v = k (i + 6) v2 := by
  obtain ⟨r, v1, v2, e1, e2, hR⟩ := tw_law hl (T.2.2.2.2.2.2.2.2.2.2.2.2.1) h
  refine ⟨v2, hR, ?_⟩
  unfold fL_512
  simp (disch := omega) only [↓ck_t, wr_id, e1, e2, ↓bd_s, ↓lt_d, ↓reduceIte]
theorem zfL_525 (hl : Lc_ R) (T : All_ R) (hx : ∀ j, iR_ (xs j)) (hi : 0 ≤ i ∧ i + 6 ≤ L ∧ L ≤ 3072) (h : R v v) (k : Int → V_ → Option (Int × V_)) : ∃ v2, R v2 v2 ∧ fL_525 xs L k i v = k (i + 6) v2 := by
  by_cases c : xs (i + 1) = 0
  · obtain ⟨r, v1, v2, e1, e2, hR⟩ := tw_law hl (T.2.2.2.2.2.2.2.2.2.2.2.2.2.1 0 (Or.inl rfl)) h
    refine ⟨v2, hR, ?_⟩
    unfold fL_525
    simp (disch := omega) only [↓ck_t, wr_id, c, e1, e2, ↓bd_s, ↓lt_d, ↓reduceIte]
  · obtain ⟨r, v1, v2, e1, e2, hR⟩ := tw_law hl (T.2.2.2.2.2.2.2.2.2.2.2.2.2.1 1 (Or.inr rfl)) h
    refine ⟨v2, hR, ?_⟩
    unfold fL_525
    simp (disch := omega) only [↓ck_t, wr_id, c, e1, e2, ↓bd_s, ↓lt_d, ↓reduceIte]
theorem zfL_564 (hl : Lc_ R) (T : All_ R) (hx : ∀ j, iR_ (xs j)) (hi : 0 ≤ i ∧ i + 6 ≤ L ∧ L ≤ 3072) (h : R v v) (k : Int → V_ → Option (Int × V_)) : ∃ v2, R v2 v2 ∧ fL_564 xs L k i v = k (i + 6) v2 := by
  obtain ⟨r, v1, v2, e1, e2, hR⟩ := tw_law hl (T.2.2.2.2.2.2.2.2.2.2.2.2.2.2.1 (xs (i + 1)) (xs (i + 2)) (xs (i + 3)) (hx _) (hx _) (hx _)) h
  refine ⟨v2, hR, ?_⟩
  unfold fL_564
  simp (disch := omega) only [↓ck_t, wr_id, e1, e2, ↓bd_s, ↓lt_d, ↓reduceIte]
theorem zfL_607 (hl : Lc_ R) (T : All_ R) (hx : ∀ j, iR_ (xs j)) (hi : 0 ≤ i ∧ i + 6 ≤ L ∧ L ≤ 3072) (h : R v v) (k : Int → V_ → Option (Int × V_)) : ∃ v2, R v2 v2 ∧ fL_607 xs L k i v = k (i + 6) v2 := by
  obtain ⟨r, v1, v2, e1, e2, hR⟩ := tw_law hl (T.2.2.2.2.2.2.2.2.2.2.2.2.2.2.2.1) h
  refine ⟨v2, hR, ?_⟩
  unfold fL_607
  simp (disch := omega) only [↓ck_t, wr_id, e1, e2, ↓bd_s, ↓lt_d, ↓reduceIte]
theorem zfL_620 (hl : Lc_ R) (T : All_ R) (hx : ∀ j, iR_ (xs j)) (hi : 0 ≤ i ∧ i + 6 ≤ L ∧ L ≤ 3072) (h : R v v) (k : Int → V_ → Option (Int × V_)) : ∃ v2, R v2 v2 ∧ fL_620 xs L k i v = k (i + 6) v2 := by
  obtain ⟨r, v1, v2, e1, e2, hR⟩ := tw_law hl (T.2.2.2.2.2.2.2.2.2.2.2.2.2.2.2.2.1) h
  refine ⟨v2, hR, ?_⟩
  unfold fL_620
  simp (disch := omega) only [↓ck_t, wr_id, e1, e2, ↓bd_s, ↓lt_d, ↓reduceIte]
theorem zfL_633 (hl : Lc_ R) (T : All_ R) (hx : ∀ j, iR_ (xs j)) (hi : 0 ≤ i ∧ i + 6 ≤ L ∧ L ≤ 3072) (h : R v v) (k : Int → V_ → Option (Int × V_)) : ∃ v2, R v2 v2 ∧ fL_633 xs L k i v = k (i + 6) v2 := by
  obtain ⟨r, v1, v2, e1, e2, hR⟩ := tw_law hl (T.2.2.2.2.2.2.2.2.2.2.2.2.2.2.2.2.2.1 (xs (i + 1)) (xs (i + 2)) (hx _) (hx _)) h
  refine ⟨v2, hR, ?_⟩
  unfold fL_633
  simp (disch := omega) only [↓ck_t, wr_id, e1, e2, ↓bd_s, ↓lt_d, ↓reduceIte]
theorem zfL_666 (hl : Lc_ R) (T : All_ R) (hx : ∀ j, iR_ (xs j)) (hi : 0 ≤ i ∧ i + 6 ≤ L ∧ L ≤ 3072) (h : R v v) (k : Int → V_ → Option (Int × V_)) : ∃ v2, R v2 v2 ∧ fL_666 xs L k i v = k (i + 6) v2 := by
  obtain ⟨r, v1, v2, e1, e2, hR⟩ := tw_law hl (T.2.2.2.2.2.2.2.2.2.2.2.2.2.2.2.2.2.2.1 (xs (i + 1)) (xs (i + 2)) (hx _) (hx _)) h
  refine ⟨v2, hR, ?_⟩
  unfold fL_666
  simp (disch := omega) only [↓ck_t, wr_id, e1, e2, ↓bd_s, ↓lt_d, ↓reduceIte]
theorem zfL_699 (hl : Lc_ R) (T : All_ R) (hx : ∀ j, iR_ (xs j)) (hi : 0 ≤ i ∧ i + 6 ≤ L ∧ L ≤ 3072) (h : R v v) (k : Int → V_ → Option (Int × V_)) : ∃ v2, R v2 v2 ∧ fL_699 xs L k i v = k (i + 6) v2 := by
  obtain ⟨r, v1, v2, e1, e2, hR⟩ := tw_law hl (T.2.2.2.2.2.2.2.2.2.2.2.2.2.2.2.2.2.2.2.1 (xs (i + 1)) (xs (i + 2)) (xs (i + 3)) (hx _) (hx _) (hx _)) h
  refine ⟨v2, hR, ?_⟩
  unfold fL_699
  simp (disch := omega) only [↓ck_t, wr_id, e1, e2, ↓bd_s, ↓lt_d, ↓reduceIte]
theorem zfL_742 (hl : Lc_ R) (T : All_ R) (hx : ∀ j, iR_ (xs j)) (hi : 0 ≤ i ∧ i + 6 ≤ L ∧ L ≤ 3072) (h : R v v) (k : Int → V_ → Option (Int × V_)) : ∃ v2, R v2 v2 ∧ fL_742 xs L k i v = k (i + 6) v2 := by
  obtain ⟨r, v1, v2, e1, e2, hR⟩ := tw_law hl (T.2.2.2.2.2.2.2.2.2.2.2.2.2.2.2.2.2.2.2.2.1 (xs (i + 1)) (xs (i + 2)) (xs (i + 3)) (hx _) (hx _) (hx _)) h
  refine ⟨v2, hR, ?_⟩
  unfold fL_742
  simp (disch := omega) only [↓ck_t, wr_id, e1, e2, ↓bd_s, ↓lt_d, ↓reduceIte]
theorem zfL_785 (hl : Lc_ R) (T : All_ R) (hx : ∀ j, iR_ (xs j)) (hi : 0 ≤ i ∧ i + 6 ≤ L ∧ L ≤ 3072) (h : R v v) (k : Int → V_ → Option (Int × V_)) : ∃ v2, R v2 v2 ∧ fL_785 xs L k i v = k (i + 6) v2 := by
  obtain ⟨r, v1, v2, e1, e2, hR⟩ := tw_law hl (T.2.2.2.2.2.2.2.2.2.2.2.2.2.2.2.2.2.2.2.2.2.1 (xs (i + 1)) (xs (i + 2)) (xs (i + 3)) (hx _) (hx _) (hx _)) h
  refine ⟨v2, hR, ?_⟩
  unfold fL_785
  simp (disch := omega) only [↓ck_t, wr_id, e1, e2, ↓bd_s, ↓lt_d, ↓reduceIte]
theorem zfL_828 (hl : Lc_ R) (T : All_ R) (hx : ∀ j, iR_ (xs j)) (hi : 0 ≤ i ∧ i + 6 ≤ L ∧ L ≤ 3072) (h : R v v) (k : Int → V_ → Option (Int × V_)) : ∃ v2, R v2 v2 ∧ fL_828 xs L k i v = k (i + 6) v2 := by
  obtain ⟨r, v1, v2, e1, e2, hR⟩ := tw_law hl (T.2.2.2.2.2.2.2.2.2.2.2.2.2.2.2.2.2.2.2.2.2.2.1 (xs (i + 1)) (xs (i + 2)) (xs (i + 3)) (hx _) (hx _) (hx _)) h
  refine ⟨v2, hR, ?_⟩
  unfold fL_828
  simp (disch := omega) only [↓ck_t, wr_id, e1, e2, ↓bd_s, ↓lt_d, ↓reduceIte]
theorem zfL_871 (hl : Lc_ R) (T : All_ R) (hx : ∀ j, iR_ (xs j)) (hi : 0 ≤ i ∧ i + 6 ≤ L ∧ L ≤ 3072) (h : R v v) (k : Int → V_ → Option (Int × V_)) : ∃ v2, R v2 v2 ∧ fL_871 xs L k i v = k (i + 6) v2 := by
  obtain ⟨r, v1, v2, e1, e2, hR⟩ := tw_law hl (T.2.2.2.2.2.2.2.2.2.2.2.2.2.2.2.2.2.2.2.2.2.2.2.1 (xs (i + 1)) (hx _)) h
  refine ⟨v2, hR, ?_⟩
  unfold fL_871
  simp (disch := omega) only [↓ck_t, wr_id, e1, e2, ↓bd_s, ↓lt_d, ↓reduceIte]
theorem zfL_894 (hl : Lc_ R) (T : All_ R) (hx : ∀ j, iR_ (xs j)) (hi : 0 ≤ i ∧ i + 6 ≤ L ∧ L ≤ 3072) (h : R v v) (k : Int → V_ → Option (Int × V_)) : ∃ v2, R v2 v2 ∧ fL_894 xs L k i v = k (i + 6) v2 := by
  obtain ⟨r, v1, v2, e1, e2, hR⟩ := tw_law hl (T.2.2.2.2.2.2.2.2.2.2.2.2.2.2.2.2.2.2.2.2.2.2.2.2.1 (xs (i + 1)) (hx _)) h
  refine ⟨v2, hR, ?_⟩
  unfold fL_894
  simp (disch := omega) only [↓ck_t, wr_id, e1, e2, ↓bd_s, ↓lt_d, ↓reduceIte]
theorem zfL_917 (hl : Lc_ R) (T : All_ R) (hx : ∀ j, iR_ (xs j)) (hi : 0 ≤ i ∧ i + 6 ≤ L ∧ L ≤ 3072) (h : R v v) (k : Int → V_ → Option (Int × V_)) : ∃ v2, R v2 v2 ∧ fL_917 xs L k i v = k (i + 6) v2 := by
  obtain ⟨r, v1, v2, e1, e2, hR⟩ := tw_law hl (T.2.2.2.2.2.2.2.2.2.2.2.2.2.2.2.2.2.2.2.2.2.2.2.2.2.1) h
  refine ⟨v2, hR, ?_⟩
  unfold fL_917
  simp (disch := omega) only [↓ck_t, wr_id, e1, e2, ↓bd_s, ↓lt_d, ↓reduceIte]
theorem zfL_930 (hl : Lc_ R) (T : All_ R) (hx : ∀ j, iR_ (xs j)) (hi : 0 ≤ i ∧ i + 6 ≤ L ∧ L ≤ 3072) (h : R v v) (k : Int → V_ → Option (Int × V_)) : ∃ v2, R v2 v2 ∧ fL_930 xs L k i v = k (i + 6) v2 := by
  obtain ⟨r, v1, v2, e1, e2, hR⟩ := tw_law hl (T.2.2.2.2.2.2.2.2.2.2.2.2.2.2.2.2.2.2.2.2.2.2.2.2.2.2.1 (xs (i + 1)) (hx _)) h
  refine ⟨v2, hR, ?_⟩
  unfold fL_930
  simp (disch := omega) only [↓ck_t, wr_id, e1, e2, ↓bd_s, ↓lt_d, ↓reduceIte]
theorem zfL_953 (hl : Lc_ R) (T : All_ R) (hx : ∀ j, iR_ (xs j)) (hi : 0 ≤ i ∧ i + 6 ≤ L ∧ L ≤ 3072) (h : R v v) (k : Int → V_ → Option (Int × V_)) : ∃ v2, R v2 v2 ∧ fL_953 xs L k i v = k (i + 6) v2 := by
  obtain ⟨r, v1, v2, e1, e2, hR⟩ := tw_law hl (T.2.2.2.2.2.2.2.2.2.2.2.2.2.2.2.2.2.2.2.2.2.2.2.2.2.2.2.1 (xs (i + 1)) (hx _)) h
  refine ⟨v2, hR, ?_⟩
  unfold fL_953
  simp (disch := omega) only [↓ck_t, wr_id, e1, e2, ↓bd_s, ↓lt_d, ↓reduceIte]
theorem zfL_976 (hl : Lc_ R) (T : All_ R) (hx : ∀ j, iR_ (xs j)) (hi : 0 ≤ i ∧ i + 6 ≤ L ∧ L ≤ 3072) (h : R v v) (k : Int → V_ → Option (Int × V_)) : ∃ v2, R v2 v2 ∧ fL_976 xs L k i v = k (i + 6) v2 := by
  obtain ⟨r, v1, v2, e1, e2, hR⟩ := tw_law hl (T.2.2.2.2.2.2.2.2.2.2.2.2.2.2.2.2.2.2.2.2.2.2.2.2.2.2.2.2.1 (xs (i + 1)) (hx _)) h
  refine ⟨v2, hR, ?_⟩
  unfold fL_976
  simp (disch := omega) only [↓ck_t, wr_id, e1, e2, ↓bd_s, ↓lt_d, ↓reduceIte]
theorem zfL_999 (hl : Lc_ R) (T : All_ R) (hx : ∀ j, iR_ (xs j)) (hi : 0 ≤ i ∧ i + 6 ≤ L ∧ L ≤ 3072) (h : R v v) (k : Int → V_ → Option (Int × V_)) : ∃ v2, R v2 v2 ∧ fL_999 xs L k i v = k (i + 6) v2 := by
  obtain ⟨r, v1, v2, e1, e2, hR⟩ := tw_law hl (T.2.2.2.2.2.2.2.2.2.2.2.2.2.2.2.2.2.2.2.2.2.2.2.2.2.2.2.2.2.1 (xs (i + 1)) (hx _)) h
  refine ⟨v2, hR, ?_⟩
  unfold fL_999
  simp (disch := omega) only [↓ck_t, wr_id, e1, e2, ↓bd_s, ↓lt_d, ↓reduceIte]
theorem zfL_1022 (hl : Lc_ R) (T : All_ R) (hx : ∀ j, iR_ (xs j)) (hi : 0 ≤ i ∧ i + 6 ≤ L ∧ L ≤ 3072) (h : R v v) (k : Int → V_ → Option (Int × V_)) : ∃ v2, R v2 v2 ∧ fL_1022 xs L k i v = k (i + 6) v2 := by
  obtain ⟨r, v1, v2, e1, e2, hR⟩ := tw_law hl (T.2.2.2.2.2.2.2.2.2.2.2.2.2.2.2.2.2.2.2.2.2.2.2.2.2.2.2.2.2.2.1 (xs (i + 1)) (hx _)) h
  refine ⟨v2, hR, ?_⟩
  unfold fL_1022
  simp (disch := omega) only [↓ck_t, wr_id, e1, e2, ↓bd_s, ↓lt_d, ↓reduceIte]
theorem zfL_1045 (hl : Lc_ R) (T : All_ R) (hx : ∀ j, iR_ (xs j)) (hi : 0 ≤ i ∧ i + 6 ≤ L ∧ L ≤ 3072) (h : R v v) (k : Int → V_ → Option (Int × V_)) : ∃ v2, R v2 v2 ∧ fL_1045 xs L k i v = k (i + 6) v2 := by
  obtain ⟨r, v1, v2, e1, e2, hR⟩ := tw_law hl (T.2.2.2.2.2.2.2.2.2.2.2.2.2.2.2.2.2.2.2.2.2.2.2.2.2.2.2.2.2.2.2 (xs (i + 1)) (hx _)) h
  refine ⟨v2, hR, ?_⟩
  unfold fL_1045
  simp (disch := omega) only [↓ck_t, wr_id, e1, e2, ↓bd_s, ↓lt_d, ↓reduceIte]
theorem law_ok (hl : Lc_ R) (T : All_ R) (hx : ∀ j, iR_ (xs j)) (hL : 0 ≤ L ∧ L ≤ 3072) : ∀ (n : Nat) (i : Int) (v : V_), 0 ≤ i ∧ i ≤ L → L - i < n → R v v → ∃ out, fL_18 xs L n i v = some out ∧ out.1 = 1 := by
  intro n
  induction n with
  | zero =>
    intro i v h1 h2 h
    omega
  | succ n ih =>
    intro i v h1 h2 h
    rw [fL_18, wr_id (by omega)]
    by_cases c : L - 6 < i
    · rw [if_pos c]
      exact ⟨_, rfl, rfl⟩
    · rw [if_neg c, ck_t (by omega)]
      have hi : 0 ≤ i ∧ i + 6 ≤ L ∧ L ≤ 3072 := by omega
      have go : ∀ x : Option (Int × V_), (∃ v2, R v2 v2 ∧ x = fL_18 xs L n (i + 6) v2) → ∃ out, x = some out ∧ out.1 = 1 := by
        intro x ⟨v2, hR, e⟩
        rw [e]
        exact ih (i + 6) v2 ⟨by omega, by omega⟩ (by omega) hR
      have hb := bA31 (xs i)
      generalize bA_ (xs i) 31 = z at hb ⊢
      by_cases c0 : z = 0
      · rw [if_pos c0]; exact go _ (zfL_176 hl T hx hi h _)
      rw [if_neg c0]
      by_cases c1 : z = 1
      · rw [if_pos c1]; exact go _ (zfL_239 hl T hx hi h _)
      rw [if_neg c1]
      by_cases c2 : z = 2
      · rw [if_pos c2]; exact go _ (zfL_262 hl T hx hi h _)
      rw [if_neg c2]
      by_cases c3 : z = 3
      · rw [if_pos c3]; exact go _ (zfL_275 hl T hx hi h _)
      rw [if_neg c3]
      by_cases c4 : z = 4
      · rw [if_pos c4]; exact go _ (zfL_288 hl T hx hi h _)
      rw [if_neg c4]
      by_cases c5 : z = 5
      · rw [if_pos c5]; exact go _ (zfL_311 hl T hx hi h _)
      rw [if_neg c5]
      by_cases c6 : z = 6
      · rw [if_pos c6]; exact go _ (zfL_334 hl T hx hi h _)
      rw [if_neg c6]
      by_cases c7 : z = 7
      · rw [if_pos c7]; exact go _ (zfL_367 hl T hx hi h _)
      rw [if_neg c7]
      by_cases c8 : z = 8
      · rw [if_pos c8]; exact go _ (zfL_400 hl T hx hi h _)
      rw [if_neg c8]
      by_cases c9 : z = 9
      · rw [if_pos c9]; exact go _ (zfL_433 hl T hx hi h _)
      rw [if_neg c9]
      by_cases c10 : z = 10
      · rw [if_pos c10]; exact go _ (zfL_466 hl T hx hi h _)
      rw [if_neg c10]
      by_cases c11 : z = 11
      · rw [if_pos c11]; exact go _ (zfL_499 hl T hx hi h _)
      rw [if_neg c11]
      by_cases c12 : z = 12
      · rw [if_pos c12]; exact go _ (zfL_512 hl T hx hi h _)
      rw [if_neg c12]
      by_cases c13 : z = 13
      · rw [if_pos c13]; exact go _ (zfL_525 hl T hx hi h _)
      rw [if_neg c13]
      by_cases c14 : z = 14
      · rw [if_pos c14]; exact go _ (zfL_564 hl T hx hi h _)
      rw [if_neg c14]
      by_cases c15 : z = 15
      · rw [if_pos c15]; exact go _ (zfL_607 hl T hx hi h _)
      rw [if_neg c15]
      by_cases c16 : z = 16
      · rw [if_pos c16]; exact go _ (zfL_620 hl T hx hi h _)
      rw [if_neg c16]
      by_cases c17 : z = 17
      · rw [if_pos c17]; exact go _ (zfL_633 hl T hx hi h _)
      rw [if_neg c17]
      by_cases c18 : z = 18
      · rw [if_pos c18]; exact go _ (zfL_666 hl T hx hi h _)
      rw [if_neg c18]
      by_cases c19 : z = 19
      · rw [if_pos c19]; exact go _ (zfL_699 hl T hx hi h _)
      rw [if_neg c19]
      by_cases c20 : z = 20
      · rw [if_pos c20]; exact go _ (zfL_742 hl T hx hi h _)
      rw [if_neg c20]
      by_cases c21 : z = 21
      · rw [if_pos c21]; exact go _ (zfL_785 hl T hx hi h _)
      rw [if_neg c21]
      by_cases c22 : z = 22
      · rw [if_pos c22]; exact go _ (zfL_828 hl T hx hi h _)
      rw [if_neg c22]
      by_cases c23 : z = 23
      · rw [if_pos c23]; exact go _ (zfL_871 hl T hx hi h _)
      rw [if_neg c23]
      by_cases c24 : z = 24
      · rw [if_pos c24]; exact go _ (zfL_894 hl T hx hi h _)
      rw [if_neg c24]
      by_cases c25 : z = 25
      · rw [if_pos c25]; exact go _ (zfL_917 hl T hx hi h _)
      rw [if_neg c25]
      by_cases c26 : z = 26
      · rw [if_pos c26]; exact go _ (zfL_930 hl T hx hi h _)
      rw [if_neg c26]
      by_cases c27 : z = 27
      · rw [if_pos c27]; exact go _ (zfL_953 hl T hx hi h _)
      rw [if_neg c27]
      by_cases c28 : z = 28
      · rw [if_pos c28]; exact go _ (zfL_976 hl T hx hi h _)
      rw [if_neg c28]
      by_cases c29 : z = 29
      · rw [if_pos c29]; exact go _ (zfL_999 hl T hx hi h _)
      rw [if_neg c29]
      by_cases c30 : z = 30
      · rw [if_pos c30]; exact go _ (zfL_1022 hl T hx hi h _)
      rw [if_neg c30]
      by_cases c31 : z = 31
      · rw [if_pos c31]; exact go _ (zfL_1045 hl T hx hi h _)
      rw [if_neg c31]
      omega
end LAWOK
theorem iR_xs (xs : Nat → Int32) (j : Int) : iR_ ((xs j.toNat).toInt) := by
  have h1 := Int32.le_toInt (xs j.toNat)
  have h2 := Int32.toInt_lt (xs j.toNat)
  exact ⟨by omega, by omega⟩
/-- what is left: the relation, all calls, and the start -/
def In0_ (R : V_ → V_ → Prop) : Prop := ∃ q q2 : Int × V_, fX11_init 1 (zr_ (fun _ _ => 0) 1) = some q ∧ fX12_init 814 (zr_ q.2 814) = some q2 ∧ St_ FD_ q2.2 ∧ R q2.2 q2.2
theorem l0_ok {R : V_ → V_ → Prop} (hl : Lc_ R) (T : All_ R) (h0 : In0_ R) (xs : Nat → Int32) {L : Nat} (hL : L ≤ 3072) : ∃ out, fL_0 (fun j => (xs j.toNat).toInt) (L : Int) = some out ∧ out.1 = 1 := by
  obtain ⟨q, q2, e1, e2, hs, hR⟩ := h0
  unfold fL_0
  rw [e1, bd_s, e2, bd_s, ckp_t hs]
  exact law_ok hl T (iR_xs xs) ⟨by omega, by omega⟩ fu_ 0 q2.2 ⟨by omega, by omega⟩ (by unfold fu_; omega) hR
