/-! layer 2: loops that copy, and the reference's rows -/
theorem lp_cp {F : Nat → Int → V_ → Option (Int × V_)} {K : V_ → Option (Int × V_)} {P : V_ → Prop} {src so dst d0 e : Int} (hP : ∀ v j x, P v → P (up_ v dst j x)) (hF : ∀ n i v, P v → 0 ≤ i → i < e → F (n + 1) i v = F n (i + 1) (up_ v dst (d0 + i) (v src (so + i)))) (hE : ∀ n v, P v → F (n + 1) e v = K v) (ho : src ≠ dst ∨ d0 ≤ so) : ∀ (d n : Nat) (i : Int) (v : V_), P v → 0 ≤ i → e = i + d → d < n → F n i v = K (cp_ v src (so + i) dst (d0 + i) d) := by
  intro d
  induction d with
  | zero =>
    intro n i v p h0 he hn
    obtain ⟨n, rfl⟩ : ∃ m, n = m + 1 := ⟨n - 1, by omega⟩
    have e1 : i = e := by omega
    subst e1
    rw [hE n v p]
    congr 1
    funext b j
    unfold cp_
    rw [if_neg (by omega)]
  | succ d ih =>
    intro n i v p h0 he hn
    obtain ⟨n, rfl⟩ : ∃ m, n = m + 1 := ⟨n - 1, by omega⟩
    rw [hF n i v p h0 (by omega), ih n (i + 1) _ (hP _ _ _ p) (by omega) (by omega) (by omega)]
    congr 1
    funext b j
    unfold cp_
    by_cases c : b = dst
    · subst c
      by_cases c1 : d0 + (i + 1) ≤ j ∧ j < d0 + (i + 1) + d
      · rw [if_pos ⟨rfl, c1⟩, if_pos ⟨rfl, by omega, by omega⟩, up_n (by omega)]
        congr 1
        omega
      · rw [if_neg (fun q => c1 q.2)]
        by_cases c2 : j = d0 + i
        · rw [if_pos ⟨rfl, by omega, by omega⟩, up_s ⟨rfl, c2⟩]
          congr 1
          omega
        · rw [if_neg (by omega), up_n (by omega)]
    · rw [if_neg (fun q => c q.1), if_neg (fun q => c q.1), up_n (fun q => c q.1)]
theorem copies_e (v : V_) : fX12_copies 814 v = some (0, cp_ v 837 0 838 0 47) := by
  unfold fX12_copies
  refine (lp_cp (F := fun n i v => fX12_copies_2 n 814 i v) (K := fun v => some (0, v)) (P := fun _ => True) (src := 837) (so := 0) (dst := 838) (d0 := 0) (e := 47) (fun _ _ _ _ => trivial) (fun n i v _ h0 h1 => ?_) (fun n v _ => ?_) (Or.inl (by decide)) 47 fu_ 0 v trivial (by decide) (by decide) (by decide)).trans ?_
  · show fX12_copies_2 (n + 1) 814 i v = _
    rw [fX12_copies_2]
    simp (disch := omega) only [↓if_n, ↓ck_t, ↓lt_d, wr_id, Int.zero_add]
    rfl
  · show fX12_copies_2 (n + 1) 814 47 v = _
    rw [fX12_copies_2]
    simp (disch := omega) only [↓if_y]
  · rfl
theorem keepsRow_e (v : V_) : fX12_keepsRow 814 v = some (0, cp_ v 838 0 837 0 47) := by
  unfold fX12_keepsRow
  refine (lp_cp (F := fun n i v => fX12_keepsRow_2 n 814 i v) (K := fun v => some (0, v)) (P := fun _ => True) (src := 838) (so := 0) (dst := 837) (d0 := 0) (e := 47) (fun _ _ _ _ => trivial) (fun n i v _ h0 h1 => ?_) (fun n v _ => ?_) (Or.inl (by decide)) 47 fu_ 0 v trivial (by decide) (by decide) (by decide)).trans ?_
  · show fX12_keepsRow_2 (n + 1) 814 i v = _
    rw [fX12_keepsRow_2]
    simp (disch := omega) only [↓if_n, ↓ck_t, ↓lt_d, wr_id, Int.zero_add]
    rfl
  · show fX12_keepsRow_2 (n + 1) 814 47 v = _
    rw [fX12_keepsRow_2]
    simp (disch := omega) only [↓if_y]
  · rfl
/-- the row put behind the history's h rows, then taken over -/
def rc_ (v : V_) (h : Int) : V_ := up_ (cp_ (up_ (cp_ v 837 0 869 (47 * h) 47) 814 77 (h + 1)) 838 0 837 0 47) 814 69 0
theorem records51_e {v : V_} {h : Int} (h0 : v 814 77 = h) (h1 : 0 ≤ h ∧ h < 40) : fX12_records_51 fu_ 814 0 v = some (0, rc_ v h) := by
  refine (lp_cp (F := fun n i v => fX12_records_51 n 814 i v) (K := fun v => some (0, up_ (cp_ (up_ v 814 77 (h + 1)) 838 0 837 0 47) 814 69 0)) (P := fun v => v 814 77 = h) (src := 837) (so := 0) (dst := 869) (d0 := 47 * h) (e := 47) (fun v j x p => (up_n (by omega)).trans p) (fun n i v p h2 h3 => ?_) (fun n v p => ?_) (Or.inl (by decide)) 47 fu_ 0 v h0 (by decide) (by decide) (by decide)).trans ?_
  · show fX12_records_51 (n + 1) 814 i v = _
    rw [fX12_records_51]
    simp (disch := omega) only [↓if_n, ↓ck_t, ↓lt_d, wr_id, Int.zero_add, p]
    rfl
  · show fX12_records_51 (n + 1) 814 47 v = _
    rw [fX12_records_51, if_pos (by decide), lt_d, p, wr_id (by omega), keepsRow_e, bd_s, lt_d]
  · show some (0, up_ (cp_ (up_ (cp_ v 837 0 869 (47 * h + 0) 47) 814 77 (h + 1)) 838 0 837 0 47) 814 69 0) = _
    rw [show (47 * h + 0 : Int) = 47 * h by omega]
    rfl
theorem records_e {v : V_} {h : Int} (h0 : v 814 77 = h) (h1 : 0 ≤ h ∧ h ≤ 40) : fX12_records 814 v = some (0, if h = 40 then rc_ (up_ (cp_ v 869 47 869 0 1833) 814 77 39) 39 else rc_ v h) := by
  unfold fX12_records
  by_cases c : h = 40
  · rw [if_pos (by omega), if_pos c]
    refine (lp_cp (F := fun n i v => fX12_records_11 n 814 i v) (K := fun v => some (0, rc_ (up_ v 814 77 39) 39)) (P := fun v => v 814 77 = 40) (src := 869) (so := 47) (dst := 869) (d0 := 0) (e := 1833) (fun v j x p => (up_n (by omega)).trans p) (fun n i v p h2 h3 => ?_) (fun n v p => ?_) (Or.inr (by decide)) 1833 fu_ 0 v (by omega) (by decide) (by decide) (by decide)).trans ?_
    · show fX12_records_11 (n + 1) 814 i v = _
      rw [fX12_records_11]
      simp (disch := omega) only [↓if_n, ↓ck_t, ↓lt_d, wr_id, Int.zero_add]
      rw [Int.add_comm i 47]
      rfl
    · show fX12_records_11 (n + 1) 814 1833 v = _
      rw [fX12_records_11, if_pos (by decide), lt_d, p]
      exact records51_e (up_s ⟨rfl, rfl⟩) (by decide)
    · rfl
  · rw [if_neg (by omega), if_neg c]
    exact records51_e h0 (by omega)
