/-! the law's entry -/
theorem kaa_of {A : Array Value} {s : State} (h : (Cond.arrayOver (.array .int)).before A s = true) : KAA_ s := by
  simp only [Cond.before, Cond.holds, Cond.value, beq_iff_eq] at h
  cases hc : s.vm.findClass (FieldType.array .int).toString with
  | none => simp [hc] at h
  | some comp =>
    simp only [hc, Option.bind_some, Option.bind_eq_some_iff, Option.map_eq_some_iff] at h
    obtain ⟨c, hi, k, hk, hb⟩ := h
    obtain ⟨hlt, hp, -⟩ := Array.findIdx?_eq_some_iff_getElem.mp hi
    have hkk : s.vm.classes[c] = k := (Array.getElem?_eq_some_iff.mp hk).2
    rw [hkk] at hp
    cases hkind : k.kind with
    | array component ty =>
      rw [hkind] at hb hp
      simp at hb hp
      exact ⟨comp, c, k, hc, hk, by rw [hkind, hp, hb.1], hb.2⟩
    | _ => rw [hkind] at hb; simp at hb
theorem kw_any {s : State} {A : Array Value} {w : Cond} (hw : w ∈ tb_) (h : w.before A s = true) : w.before #[] s = true := by
  have hg : gw_ w = true := (List.mem_filter.mp hw).2
  by_cases hn : goodWord w = true
  · exact word_at (State.WarmedH.refl s) (good_of_word hn) h
  · cases w with
    | methodLinkNest a i x hh => exact va_Nw.of rfl h
    | _ => exact absurd hg hn
theorem cls_ex {s : State} {A : Array Value} (hts : ∀ w ∈ lw_tbl, w.before A s = true) : ∀ k : Nat, ∃ r : ClassId × (Nat → Nat), ∀ q : vw_C, vwCl[k]? = some q → u_Kn s q.1 q.2.1 q.2.2 r.1 r.2 := by
  have ht : ∀ w ∈ tb_, w.before A s = true := fun w hw => hts w (List.mem_filter.mp hw).1
  have go : ∀ {ci : Nat} {C : String} {T : u_T} {N : Nat} {ty : Nat → FieldType}, cl_ok ci C T N ty → Cond.instantiable C N ∈ tb_ → ∃ r : ClassId × (Nat → Nat), ∀ q : vw_C, vwCl[ci]? = some q → u_Kn s q.1 q.2.1 q.2.2 r.1 r.2 := by
    intro ci C T N ty hc hi
    obtain ⟨cC, iS, h⟩ := u_known ht hc.2.1 (ht _ hi)
    refine ⟨(cC, iS), fun q hq => ?_⟩
    have e := Option.some.inj (hc.1.symm.trans hq)
    subst e
    exact h
  intro k
  match k with
  | 0 => exact go okX0 kins_X0
  | 1 => exact go okX1 kins_X1
  | 2 => exact go okX2 kins_X2
  | 3 => exact go okX3 kins_X3
  | 4 => exact go okX4 kins_X4
  | 5 => exact go okX5 kins_X5
  | 6 => exact go okX6 kins_X6
  | 7 => exact go okX7 kins_X7
  | 8 => exact go okX8 kins_X8
  | 9 => exact go okX9 kins_X9
  | 10 => exact go okX10 kins_X10
  | 11 => exact go okX11 kins_X11
  | 12 => exact go okX12 kins_X12
  | k + 13 => exact ⟨(default, fun _ => 0), fun q hq => by simp [vwCl] at hq⟩
theorem arr_ex {s : State} {A : Array Value} (hts : ∀ w ∈ lw_tbl, w.before A s = true) (hA : KA_ s) : ∀ k : Nat, ∃ cA : ClassId, k < 8 → ArrOfT s cA (at_ k) ∧ va_RA s cA (at_ k) := by
  have ht : ∀ w ∈ tb_, w.before A s = true := fun w hw => hts w (List.mem_filter.mp hw).1
  have pr : ∀ t : FieldType, (∀ n, t ≠ .object n) → (Cond.arrayClass t).before A s = true → ∃ cA : ClassId, ArrOfT s cA t ∧ va_RA s cA t := by
    intro t hto h
    obtain ⟨cA, kC, cc, h1, h2, h3⟩ := Cond.arrayClass_spec h
    refine ⟨cA, fun n z => ⟨fun k h => (by cases h), kC, h2, cc, h3⟩, ?_⟩
    unfold va_RA
    split
    · rename_i C
      exact absurd rfl (hto C)
    · exact h1
  have ob : ∀ C : String, va_AO C s → ∃ cA : ClassId, ArrOfT s cA (.object C) ∧ va_RA s cA (.object C) := by
    intro C h
    obtain ⟨comp, c, k, h1, h2, h3, h4, h5⟩ := Cond.arrayOver_spec h
    exact ⟨c, fun n z => ⟨fun k h => (by cases h), k, h3, comp, h4⟩, k, comp, h3, h4, h1, h5⟩
  have fin : ∀ {t : FieldType} {k : Nat}, (∃ cA : ClassId, ArrOfT s cA t ∧ va_RA s cA t) → at_ k = t → ∃ cA : ClassId, k < 8 → ArrOfT s cA (at_ k) ∧ va_RA s cA (at_ k) := by
    intro t k ⟨cA, h⟩ e
    exact ⟨cA, fun _ => by rw [e]; exact h⟩
  intro k
  match k with
  | 0 => exact fin (pr .int (fun n h => by cases h) (ht _ kac_int)) rfl
  | 1 => exact fin (pr .byte (fun n h => by cases h) (ht _ kac_byte)) rfl
  | 2 => exact fin (pr .long (fun n h => by cases h) (ht _ kac_long)) rfl
  | 3 => exact fin (pr .boolean (fun n h => by cases h) (ht _ kac_boolean)) rfl
  | 4 =>
    obtain ⟨comp, cA, kA, h1, h2, h3, h4⟩ := hA.2.2.2
    exact ⟨cA, fun _ => ⟨fun n z => ⟨fun k h => (by cases h), kA, h2, comp, h3⟩, h4⟩⟩
  | 5 => exact fin (ob _ hA.1) rfl
  | 6 => exact fin (ob _ hA.2.1) rfl
  | 7 => exact fin (ob _ hA.2.2.1) rfl
  | k + 8 => exact ⟨default, fun h => by omega⟩
theorem kk_entry {s : State} {A : Array Value} (hts : ∀ w ∈ lw_tbl, w.before A s = true) (hA : KA_ s) (B : Nat) (H0 : Heap) : ∃ (dC : Nat → ClassId) (dI : Nat → Nat → Nat) (ar : Nat → ClassId), KK_ (B, H0, dC, dI, ar, fun _ => False) s := by
  obtain ⟨F, hF⟩ := Classical.axiomOfChoice (cls_ex hts)
  obtain ⟨G, hG⟩ := Classical.axiomOfChoice (arr_ex hts hA)
  refine ⟨fun k => (F k).1, fun k => (F k).2, G, fun w hw => kw_any hw (hts w (List.mem_filter.mp hw).1), fun c q hq => hF c q hq, fun k q hk => ?_⟩
  match k with
  | 0 => cases hk; exact hG 0 (by decide)
  | 1 => cases hk; exact hG 1 (by decide)
  | 2 => cases hk; exact hG 2 (by decide)
  | 3 => cases hk; exact hG 3 (by decide)
  | 4 => cases hk; exact hG 4 (by decide)
  | 5 => cases hk; exact hG 5 (by decide)
  | 6 => cases hk; exact hG 6 (by decide)
  | 7 => cases hk; exact hG 7 (by decide)
  | k + 8 => simp [ats_] at hk
