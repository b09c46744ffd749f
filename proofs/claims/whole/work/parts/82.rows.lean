/-! layer 2: loops that copy, and the reference's rows -/
theorem lp_cp {F : Nat → Int → V_ → Option (Int × V_)} {K : V_ → Option (Int × V_)} {P : V_ → Prop} {src so dst d0 e : Int} (hP : ∀ v j x, P v → P (up_ v dst j x)) (hF : ∀ n i v, P v → 0 ≤ i → i < e → F (n + 1) i v = F n (i + 1) (up_ v dst (d0 + i) (v src (so + i)))) (hE : ∀ n v, P v → F (n + 1) e v = K v) (ho : src ≠ dst ∨ d0 ≤ so) : ∀ (d n : Nat) (i : Int) (v : V_), P v → 0 ≤ i → e = i + d → d < n → F n i v = K (cp_ v src (so + i) dst (d0 + i) d) := by
  intro d
  induction d with
  | zero =>
    intro n i v p h0 he hn
    obtain ⟨n, rfl⟩ : ∃ m, n = m + 1 := ⟨n - 1, by omega⟩
    have e1 : i = e := by omega
    subst e1
    rw [hE n v p]
    congr 1
    funext b j
    unfold cp_
    rw [if_neg (by omega)]
  | succ d ih =>
    intro n i v p h0 he hn
    obtain ⟨n, rfl⟩ : ∃ m, n = m + 1 := ⟨n - 1, by omega⟩
    rw [hF n i v p h0 (by omega), ih n (i + 1) _ (hP _ _ _ p) (by omega) (by omega) (by omega)]
    congr 1
    funext b j
    unfold cp_
    by_cases c : b = dst
    · subst c
      by_cases c1 : d0 + (i + 1) ≤ j ∧ j < d0 + (i + 1) + d
      · rw [if_pos ⟨rfl, c1⟩, if_pos ⟨rfl, by omega, by omega⟩, up_n (by omega)]
        congr 1
        omega
      · rw [if_neg (fun q => c1 q.2)]
        by_cases c2 : j = d0 + i
        · rw [if_pos ⟨rfl, by omega, by omega⟩, up_s ⟨rfl, c2⟩]
          congr 1
          omega
        · rw [if_neg (by omega), up_n (by omega)]
    · rw [if_neg (fun q => c q.1), if_neg (fun q => c q.1), up_n (fun q => c q.1)]
theorem copies_e (v : V_) : fX12_copies 814 v = some (0, cp_ v 837 0 838 0 47) := by
  unfold fX12_copies
  refine (lp_cp (F := fun n i v => fX12_copies_2 n 814 i v) (K := fun v => some (0, v)) (P := fun _ => True) (src := 837) (so := 0) (dst := 838) (d0 := 0) (e := 47) (fun _ _ _ _ => trivial) (fun n i v _ h0 h1 => ?_) (fun n v _ => ?_) (Or.inl (by decide)) 47 fu_ 0 v trivial (by decide) (by decide) (by decide)).trans ?_
  · show fX12_copies_2 (n + 1) 814 i v = _
    rw [fX12_copies_2]
    simp (disch := omega) only [↓if_n, ↓ck_t, ↓lt_d, wr_id, Int.zero_add]
    rfl
  · show fX12_copies_2 (n + 1) 814 47 v = _
    rw [fX12_copies_2]
    simp (disch := omega) only [↓if_y]
  · rfl
