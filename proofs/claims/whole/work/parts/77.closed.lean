/-! all handles are closed under their static references -/
def FD_ : Int → Prop := fun a => 0 < a ∧ a < 873
def mofs_ (t : Nat) : Nat := ([46, 1, 5, 8, 5, 7, 6, 1, 0, 4, 6, 806, 58] : List Nat).getD t 0
theorem ofO_mx {t k : Nat} {o : Int} (h : ofO_ t k = some o) : 0 < o ∧ o ≤ (mofs_ t : Int) := by
  unfold ofO_ at h
  split at h <;> first | (cases h; decide) | cases h
theorem clO_ : ∀ n : Nat, n < 873 → tyq_ n < 20 → n + mofs_ (tyq_ n) < 873 := by decide +kernel
theorem clA_ : ∀ n : Nat, n < 873 → (tyq_ n = 24 → n + 1 + lnq_ n ≤ 873) ∧ (tyq_ n = 25 → (lnq_ n = 48 → n + 6 + lnq_ n ≤ 873) ∧ (lnq_ n ≠ 48 → n + 53 + lnq_ n ≤ 873)) ∧ (tyq_ n = 26 → n + 5 + 2 * lnq_ n ≤ 874) ∧ (tyq_ n = 27 → n + 10 + 75 * lnq_ n ≤ 873 + 74) := by decide +kernel
theorem fd_cl : Cl_ FD_ 873 := by
  intro a ha
  obtain ⟨h1, h2⟩ := id ha
  refine ⟨h1, h2, h2, fun k o h => ?_⟩
  obtain ⟨n, rfl⟩ := nat_of h1
  have hn : n < 873 := by omega
  have h : of_ (tyq_ n) (lnq_ n) k = some o := h
  unfold of_ at h
  split at h
  · obtain ⟨a1, a2⟩ := ofO_mx h
    have := clO_ n hn (by assumption)
    exact ⟨by omega, by omega⟩
  · obtain ⟨q1, q2, q3, q4⟩ := clA_ n hn
    unfold ofA_ at h
    split at h
    · cases h
    · split at h
      · rename_i e1 e2
        have q2 := q2 e2
        split at h
        · rename_i e3
          have := q2.1 e3
          have h := Option.some.inj h
          exact ⟨by omega, by omega⟩
        · rename_i e3
          have := q2.2 e3
          have h := Option.some.inj h
          exact ⟨by omega, by omega⟩
      · split at h
        · rename_i e2
          have := q3 e2
          have h := Option.some.inj h
          exact ⟨by omega, by omega⟩
        · split at h
          · rename_i e2
            have := q4 e2
            have h := Option.some.inj h
            exact ⟨by omega, by omega⟩
          · split at h
            · rename_i e2
              have := q1 e2
              have h := Option.some.inj h
              exact ⟨by omega, by omega⟩
            · cases h
