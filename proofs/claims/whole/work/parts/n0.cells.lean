/-! layer 2: constructors: the cells from lo to hi as a content tells -/
def nx_ (c : Int → Int → Int) (v : V_) (lo hi : Int) : V_ := fun a k => if lo ≤ a ∧ a < hi then c a k else v a k
def px_ (c : Int → Int → Int) (f : Int → Int) (v : V_) (x0 j : Int) : V_ := fun a k => if a = x0 then (if x0 < iv_ x0 k ∧ iv_ x0 k < x0 + j then iv_ x0 k else f k) else if x0 < a ∧ a < x0 + j then c a k else v a k
section CON
variable {c : Int → Int → Int} {f : Int → Int} {u v : V_} {x0 j n s y lo hi a k : Int}
theorem nx_i (h : lo ≤ a ∧ a < hi) : nx_ c v lo hi a k = c a k := if_pos h
theorem nx_o (h : ¬ (lo ≤ a ∧ a < hi)) : nx_ c v lo hi a k = v a k := if_neg h
theorem px_0 : zr_ v x0 = px_ c (fun _ => 0) v x0 1 := by
  funext a k
  unfold px_
  by_cases h : a = x0
  · rw [zr_s h, if_pos h, if_neg (by omega)]
  · rw [zr_n h, if_neg h, if_neg (by omega)]
theorem px_s (hj : 0 < j) (hn : 0 < n) (hs : iv_ x0 s = x0 + j) (hu : ∀ k, k ≠ s → ¬ (x0 + j ≤ iv_ x0 k ∧ iv_ x0 k < x0 + j + n)) : up_ (nx_ c (px_ c f v x0 j) (x0 + j) (x0 + j + n)) x0 s (x0 + j) = px_ c f v x0 (j + n) := by
  funext a k
  by_cases h : a = x0
  · subst h
    by_cases hk : k = s
    · rw [up_s ⟨rfl, hk⟩]
      unfold px_
      rw [if_pos rfl, hk, hs, if_pos (by omega)]
    · rw [up_n (fun q => hk q.2), nx_o (by omega)]
      unfold px_
      rw [if_pos rfl, if_pos rfl]
      have := hu k hk
      by_cases h2 : a < iv_ a k ∧ iv_ a k < a + j
      · rw [if_pos h2, if_pos (by omega)]
      · rw [if_neg h2, if_neg (by omega)]
  · rw [up_n (fun q => h q.1)]
    by_cases h2 : x0 + j ≤ a ∧ a < x0 + j + n
    · rw [nx_i h2]
      unfold px_
      rw [if_neg h, if_pos (by omega)]
    · rw [nx_o h2]
      unfold px_
      rw [if_neg h, if_neg h]
      by_cases h3 : x0 < a ∧ a < x0 + j
      · rw [if_pos h3, if_pos (by omega)]
      · rw [if_neg h3, if_neg (by omega)]
theorem px_f (hs : ¬ (x0 < iv_ x0 s)) : up_ (px_ c f v x0 j) x0 s y = px_ c (fun k => if k = s then y else f k) v x0 j := by
  funext a k
  unfold px_
  by_cases h : a = x0
  · subst h
    by_cases hk : k = s
    · rw [up_s ⟨rfl, hk⟩, if_pos rfl, hk, if_neg (by omega)]
      exact (if_pos rfl).symm
    · rw [up_n (fun q => hk q.2), if_pos rfl, if_pos rfl]
      by_cases h2 : a < iv_ a k ∧ iv_ a k < a + j
      · rw [if_pos h2, if_pos h2]
      · rw [if_neg h2, if_neg h2]
        exact (if_neg hk).symm
  · rw [up_n (fun q => h q.1), if_neg h, if_neg h]
theorem px_e (h0 : 0 < j) (h : ∀ k, c x0 k = if x0 < iv_ x0 k ∧ iv_ x0 k < x0 + j then iv_ x0 k else f k) : px_ c f v x0 j = nx_ c v x0 (x0 + j) := by
  funext a k
  unfold px_
  by_cases h2 : a = x0
  · subst h2
    rw [if_pos rfl, nx_i (by omega), h]
  · rw [if_neg h2]
    by_cases h3 : x0 < a ∧ a < x0 + j
    · rw [if_pos h3, nx_i (by omega)]
    · rw [if_neg h3, nx_o (by omega)]
theorem zr_nx (h : ∀ k, c a k = 0) : zr_ u a = nx_ c u a (a + 1) := by
  funext b k
  by_cases q : b = a
  · rw [zr_s q, nx_i (by omega), q, h]
  · rw [zr_n q, nx_o (by omega)]
theorem nw_nx (h : ∀ a, lo ≤ a → a < hi → ∀ k, c a k = iv_ a k) : nw_ v lo hi = nx_ c v lo hi := by
  funext a k
  by_cases q : lo ≤ a ∧ a < hi
  · rw [nw_i q, nx_i q, h a q.1 q.2]
  · rw [nw_o q, nx_o q]
theorem iv_all {P : Int → Int → Prop} (h20 : ty_ x0 < 20) (h : ∀ n : Nat, n < 90 → P n (iv_ x0 n)) (h0 : ∀ k, P k 0) (k : Int) : P k (iv_ x0 k) := by
  by_cases q : 0 ≤ k ∧ k < 90
  · have := h k.toNat (by omega)
    rw [show ((k.toNat : Nat) : Int) = k by omega] at this
    exact this
  · rw [iv_none h20 (fun hk => ofO_big (by omega))]
    exact h0 k
/-- an array of numbers behind an object -/
theorem px_a (h : 20 ≤ ty_ (x0 + j) ∧ ty_ (x0 + j) < 24) (hj : 0 < j) (hs : iv_ x0 s = x0 + j) (hu : ∀ k, k ≠ s → iv_ x0 k ≠ x0 + j) : up_ (zr_ (px_ iv_ f v x0 j) (x0 + j)) x0 s (x0 + j) = px_ iv_ f v x0 (j + 1) := by
  rw [zr_nx (c := iv_) fun k => iv_arr h]
  exact px_s hj (by decide) hs fun k hk q => hu k hk (by omega)
/-- ranges closed under static references -/
theorem Cl_rng {lo hi : Nat} (h0 : 0 < lo ∧ hi ≤ 873) (hO : ∀ n : Nat, n < hi → lo ≤ n → tyq_ n < 20 → n + mofs_ (tyq_ n) < hi) (hA1 : ∀ n : Nat, n < hi → lo ≤ n → tyq_ n = 24 → n + 1 + lnq_ n ≤ hi) (hA2 : ∀ n : Nat, n < hi → lo ≤ n → tyq_ n = 25 → (lnq_ n = 48 → n + 6 + lnq_ n ≤ hi) ∧ (lnq_ n ≠ 48 → n + 53 + lnq_ n ≤ hi)) (hA3 : ∀ n : Nat, n < hi → lo ≤ n → tyq_ n = 26 → n + 5 + 2 * lnq_ n ≤ hi + 1) (hA4 : ∀ n : Nat, n < hi → lo ≤ n → tyq_ n = 27 → n + 10 + 75 * lnq_ n ≤ hi + 74) : Cl_ (fun a => (lo : Int) ≤ a ∧ a < (hi : Int)) (hi : Int) := by
  intro a ha
  obtain ⟨h1, h2⟩ := id ha
  refine ⟨by omega, h2, by unfold TOT_; omega, fun k o h => ?_⟩
  obtain ⟨n, rfl⟩ := nat_of (show 0 < a by omega)
  have hn : n < hi := by omega
  have hl : lo ≤ n := by omega
  have h : of_ (tyq_ n) (lnq_ n) k = some o := h
  unfold of_ at h
  split at h
  · obtain ⟨a1, a2⟩ := ofO_mx h
    have := hO n hn hl (by assumption)
    exact ⟨by omega, by omega⟩
  · have q1 := hA1 n hn hl
    have q2 := hA2 n hn hl
    have q3 := hA3 n hn hl
    have q4 := hA4 n hn hl
    unfold ofA_ at h
    split at h
    · cases h
    · split at h
      · rename_i e1 e2
        have q2 := q2 e2
        split at h
        · rename_i e3
          have := q2.1 e3
          have h := Option.some.inj h
          exact ⟨by omega, by omega⟩
        · rename_i e3
          have := q2.2 e3
          have h := Option.some.inj h
          exact ⟨by omega, by omega⟩
      · split at h
        · rename_i e2
          have := q3 e2
          have h := Option.some.inj h
          exact ⟨by omega, by omega⟩
        · split at h
          · rename_i e2
            have := q4 e2
            have h := Option.some.inj h
            exact ⟨by omega, by omega⟩
          · split at h
            · rename_i e2
              have := q1 e2
              have h := Option.some.inj h
              exact ⟨by omega, by omega⟩
            · cases h
theorem St_iv (D : Int → Prop) (h : ∀ a, D a → ∀ (k : Nat) (o : Int), of_ (ty_ a) (ln_ a) k = some o → v a k = iv_ a k) : St_ D v := fun a ha k o ho => by
  rw [h a ha k o ho]
  unfold iv_
  rw [if_pos (by omega), show ((k : Nat) : Int).toNat = k by omega, ho]
theorem oI12 : ∀ n : Nat, n < 90 → ∀ m : Nat, m < 90 → ofO_ 12 n = ofO_ 12 m → ofO_ 12 n ≠ none → n = m := by decide +kernel
theorem clM : Cl_ (fun a => 814 ≤ a ∧ a < 873) 873 := Cl_rng (lo := 814) (hi := 873) (by decide) (by decide +kernel) (by decide +kernel) (by decide +kernel) (by decide +kernel) (by decide +kernel)
theorem tyM : ∀ n : Nat, n < 59 → 1 ≤ n → 20 ≤ tyq_ (814 + n) ∧ tyq_ (814 + n) < 24 := by decide +kernel
theorem t814 : ty_ 814 = 12 ∧ ln_ 814 = 0 := by decide +kernel
theorem iv_814 (k : Nat) {o : Int} (h : ofO_ 12 k = some o) : iv_ 814 (k : Int) = 814 + o := iv_some (by rw [t814.1]; decide) (by omega) (by rw [t814.1, show ((k : Nat) : Int).toNat = k by omega]; exact h)
theorem tyM' {j : Int} (h : 1 ≤ j ∧ j < 59) : 20 ≤ ty_ (814 + j) ∧ ty_ (814 + j) < 24 := by
  have := tyM j.toNat (by omega) (by omega)
  unfold ty_
  rw [show (814 + j).toNat = 814 + j.toNat by omega]
  exact this
/-- a step of the model's constructor -/
theorem st12 (j' : Int) (hs : 0 ≤ s ∧ s < 90 ∧ ofO_ 12 s.toNat = some j) (h : 1 ≤ j ∧ j < 59 ∧ j' = j + 1) : up_ (zr_ (px_ iv_ f v 814 j) (814 + j)) 814 s (814 + j) = px_ iv_ f v 814 j' := by
  obtain ⟨h, h', rfl⟩ := h
  obtain ⟨s0, s1, hs⟩ := hs
  have es := iv_814 s.toNat hs
  rw [show ((s.toNat : Nat) : Int) = s by omega] at es
  refine px_a (tyM' ⟨h, h'⟩) (by omega) es fun k hk q => ?_
  have h20 : ty_ 814 < 20 := by rw [t814.1]; decide
  by_cases c : 0 ≤ k ∧ k < 90
  · cases e : ofO_ 12 k.toNat with
    | none =>
      rw [iv_none h20 (fun _ => by rw [t814.1]; exact e)] at q
      omega
    | some o =>
      have q2 := iv_814 k.toNat e
      rw [show ((k.toNat : Nat) : Int) = k by omega, q] at q2
      have eo : o = j := by omega
      have := oI12 k.toNat (by omega) s.toNat (by omega) (by rw [e, hs, eo]) (by rw [e]; exact fun z => by cases z)
      omega
  · rw [iv_none h20 (fun hk => ofO_big (by omega))] at q
    omega
theorem X12_arr (v : V_) : fX12_init 814 (zr_ v 814) = (ckp_ (Sc_ 814 (814 + 59) (px_ iv_ (fun k => if k = 17 then -1 else 0) v 814 59)) (
  bd_ (fX12_plain 814 0 (px_ iv_ (fun k => if k = 17 then -1 else 0) v 814 59)) fun q176 =>
  ckp_ (Sc_ 814 (814 + 59) q176.2) (
  bd_ (fX12_plain 814 1 q176.2) fun q179 =>
  ck_ (q179.2 814 9 = 814 + 7 ∧ (ty_ (814 + 7) = 22 ∧ ln_ (814 + 7) = 17) ∧ (814 : Int) + 7 < 814 + 59) (
  bd_ (fX12_letters 117 110 105 116 115 0 0 q179.2) fun q184 =>
  lt_ (up_ q184.2 (814 + 7) 0 q184.1) fun v185 =>
  fX12_init_521 814 v185)))) := by
  rw [px_0 (c := iv_)]
  unfold fX12_init
  rw [ck_t (by decide +kernel), st12 (j := 1) (s := 1) 2 (by decide) (by decide), lt_d]
  rw [ck_t (by decide +kernel), st12 (j := 2) (s := 3) 3 (by decide) (by decide), lt_d]
  rw [ck_t (by decide +kernel), st12 (j := 3) (s := 5) 4 (by decide) (by decide), lt_d]
  rw [ck_t (by decide +kernel), st12 (j := 4) (s := 6) 5 (by decide) (by decide), lt_d]
  rw [ck_t (by decide +kernel), st12 (j := 5) (s := 7) 6 (by decide) (by decide), lt_d]
  rw [ck_t (by decide +kernel), st12 (j := 6) (s := 8) 7 (by decide) (by decide), lt_d]
  unfold fX12_init_58
  rw [ck_t (by decide +kernel), st12 (j := 7) (s := 9) 8 (by decide) (by decide), lt_d]
  rw [px_f (by decide +kernel), lt_d]
  rw [ck_t (by decide +kernel), st12 (j := 8) (s := 21) 9 (by decide) (by decide), lt_d]
  rw [ck_t (by decide +kernel), st12 (j := 9) (s := 22) 10 (by decide) (by decide), lt_d]
  rw [ck_t (by decide +kernel), st12 (j := 10) (s := 23) 11 (by decide) (by decide), lt_d]
  rw [ck_t (by decide +kernel), st12 (j := 11) (s := 24) 12 (by decide) (by decide), lt_d]
  rw [ck_t (by decide +kernel), st12 (j := 12) (s := 25) 13 (by decide) (by decide), lt_d]
  unfold fX12_init_110
  rw [ck_t (by decide +kernel), st12 (j := 13) (s := 26) 14 (by decide) (by decide), lt_d]
  rw [ck_t (by decide +kernel), st12 (j := 14) (s := 27) 15 (by decide) (by decide), lt_d]
  rw [ck_t (by decide +kernel), st12 (j := 15) (s := 28) 16 (by decide) (by decide), lt_d]
  rw [ck_t (by decide +kernel), st12 (j := 16) (s := 29) 17 (by decide) (by decide), lt_d]
  rw [ck_t (by decide +kernel), st12 (j := 17) (s := 30) 18 (by decide) (by decide), lt_d]
  rw [ck_t (by decide +kernel), st12 (j := 18) (s := 31) 19 (by decide) (by decide), lt_d]
  rw [ck_t (by decide +kernel), st12 (j := 19) (s := 32) 20 (by decide) (by decide), lt_d]
  unfold fX12_init_166
  rw [ck_t (by decide +kernel), st12 (j := 20) (s := 33) 21 (by decide) (by decide), lt_d]
  rw [ck_t (by decide +kernel), st12 (j := 21) (s := 34) 22 (by decide) (by decide), lt_d]
  rw [ck_t (by decide +kernel), st12 (j := 22) (s := 35) 23 (by decide) (by decide), lt_d]
  rw [ck_t (by decide +kernel), st12 (j := 23) (s := 36) 24 (by decide) (by decide), lt_d]
  rw [ck_t (by decide +kernel), st12 (j := 24) (s := 37) 25 (by decide) (by decide), lt_d]
  rw [ck_t (by decide +kernel), st12 (j := 25) (s := 38) 26 (by decide) (by decide), lt_d]
  rw [ck_t (by decide +kernel), st12 (j := 26) (s := 39) 27 (by decide) (by decide), lt_d]
  unfold fX12_init_222
  rw [ck_t (by decide +kernel), st12 (j := 27) (s := 43) 28 (by decide) (by decide), lt_d]
  rw [ck_t (by decide +kernel), st12 (j := 28) (s := 44) 29 (by decide) (by decide), lt_d]
  rw [ck_t (by decide +kernel), st12 (j := 29) (s := 47) 30 (by decide) (by decide), lt_d]
  rw [ck_t (by decide +kernel), st12 (j := 30) (s := 48) 31 (by decide) (by decide), lt_d]
  rw [ck_t (by decide +kernel), st12 (j := 31) (s := 49) 32 (by decide) (by decide), lt_d]
  rw [ck_t (by decide +kernel), st12 (j := 32) (s := 50) 33 (by decide) (by decide), lt_d]
  rw [ck_t (by decide +kernel), st12 (j := 33) (s := 51) 34 (by decide) (by decide), lt_d]
  unfold fX12_init_278
  rw [ck_t (by decide +kernel), st12 (j := 34) (s := 53) 35 (by decide) (by decide), lt_d]
  rw [ck_t (by decide +kernel), st12 (j := 35) (s := 54) 36 (by decide) (by decide), lt_d]
  rw [ck_t (by decide +kernel), st12 (j := 36) (s := 55) 37 (by decide) (by decide), lt_d]
  rw [ck_t (by decide +kernel), st12 (j := 37) (s := 56) 38 (by decide) (by decide), lt_d]
  rw [ck_t (by decide +kernel), st12 (j := 38) (s := 57) 39 (by decide) (by decide), lt_d]
  rw [ck_t (by decide +kernel), st12 (j := 39) (s := 58) 40 (by decide) (by decide), lt_d]
  rw [ck_t (by decide +kernel), st12 (j := 40) (s := 59) 41 (by decide) (by decide), lt_d]
  unfold fX12_init_340
  rw [ck_t (by decide +kernel), st12 (j := 41) (s := 60) 42 (by decide) (by decide), lt_d]
  rw [ck_t (by decide +kernel), st12 (j := 42) (s := 61) 43 (by decide) (by decide), lt_d]
  rw [ck_t (by decide +kernel), st12 (j := 43) (s := 62) 44 (by decide) (by decide), lt_d]
  rw [ck_t (by decide +kernel), st12 (j := 44) (s := 63) 45 (by decide) (by decide), lt_d]
  rw [ck_t (by decide +kernel), st12 (j := 45) (s := 64) 46 (by decide) (by decide), lt_d]
  rw [ck_t (by decide +kernel), st12 (j := 46) (s := 65) 47 (by decide) (by decide), lt_d]
  rw [ck_t (by decide +kernel), st12 (j := 47) (s := 66) 48 (by decide) (by decide), lt_d]
  unfold fX12_init_401
  rw [ck_t (by decide +kernel), st12 (j := 48) (s := 67) 49 (by decide) (by decide), lt_d]
  rw [ck_t (by decide +kernel), st12 (j := 49) (s := 68) 50 (by decide) (by decide), lt_d]
  rw [ck_t (by decide +kernel), st12 (j := 50) (s := 70) 51 (by decide) (by decide), lt_d]
  rw [ck_t (by decide +kernel), st12 (j := 51) (s := 71) 52 (by decide) (by decide), lt_d]
  rw [ck_t (by decide +kernel), st12 (j := 52) (s := 72) 53 (by decide) (by decide), lt_d]
  rw [ck_t (by decide +kernel), st12 (j := 53) (s := 73) 54 (by decide) (by decide), lt_d]
  rw [ck_t (by decide +kernel), st12 (j := 54) (s := 74) 55 (by decide) (by decide), lt_d]
  unfold fX12_init_457
  rw [ck_t (by decide +kernel), st12 (j := 55) (s := 78) 56 (by decide) (by decide), lt_d]
  rw [ck_t (by decide +kernel), st12 (j := 56) (s := 79) 57 (by decide) (by decide), lt_d]
  rw [ck_t (by decide +kernel), st12 (j := 57) (s := 80) 58 (by decide) (by decide), lt_d]
  rw [ck_t (by decide +kernel), st12 (j := 58) (s := 81) 59 (by decide) (by decide), lt_d]
end CON
