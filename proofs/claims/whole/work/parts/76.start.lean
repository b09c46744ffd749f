/-! the law from its entry to its loop -/
set_option maxRecDepth 100000 in
theorem nf_at {w : Cond} (h : w ∈ flatC (Jvm.Cond.and given_1 narrow_1)) {A : Array Value} {s : State} (hgv : (Jvm.Cond.and given_1 narrow_1).before A s = true) : w.before A s = true := flat_of_before _ hgv w h
def tmS_ : Term := Term.string "TraceDesk$Tokens" 25
set_option maxRecDepth 100000 in
theorem nf_el : ∀ j : Nat, j < 67 → (Cond.eq (.elem (.field tmS_ "java/lang/String" "value" "[B") (.int (Int32.ofNat j))) (.int ((sbL_.map Int32.ofInt).getD j 0))) ∈ flatC (Jvm.Cond.and given_1 narrow_1) := by
  decide +kernel
set_option maxRecDepth 100000 in
theorem ks_ex {b : Nat} {s : State} (E : En_) (hE1 : E.1 + 1 = s.heap.size) (hE2 : E.2.1 = s.heap) (hts : ∀ w ∈ lw_tbl, w.before #[Value.ref b] s = true) (hgv : (Jvm.Cond.and given_1 narrow_1).before #[Value.ref b] s = true) : ∃ aK aV, KS_ E aK aV s := by
  have hA : ∀ a : Nat, a < s.heap.size → ¬ SA_ E a := fun a h => by unfold SA_; omega
  obtain ⟨adK, adV, h1, h2⟩ := vk_Sof (N := 1) (tm := fun _ => tmS_) (len := [67]) (byt := [sbL_.map Int32.ofInt]) (A := SA_ E) (args := #[Value.ref b]) (s := s)
    (fun i hi => by obtain rfl : i = 0 := by omega
                    decide)
    (fun i hi => nf_at (by decide +kernel) hgv) (fun i hi => nf_at (by decide +kernel) hgv) (fun i hi => nf_at (by decide +kernel) hgv)
    (fun i hi => by obtain rfl : i = 0 := by omega
                    exact nf_at (by decide +kernel) hgv)
    (fun i hi j hj => by obtain rfl : i = 0 := by omega
                         exact nf_at (nf_el j hj) hgv)
    (fun i j hi hj h => absurd (show i = j by omega) h) hA
  obtain ⟨⟨a1, a2, a3, a4⟩, -⟩ := And.intro (h1.1 0 (by decide)) trivial
  have a5 := h2 0 (by decide)
  obtain ⟨z, hz1, hz2⟩ := Cond.isRef_spec (nf_at (w := Cond.isRef (Term.static "jdk/internal/util/Preconditions" "SIOOBE_FORMATTER" "Ljava/util/function/BiFunction;")) (by decide +kernel) hgv)
  refine ⟨adK 0, adV 0, ?_⟩
  unfold KS_
  rw [hE2]
  refine ⟨a1, a2, a3, ?_, ?_, ⟨z, ?_, ?_⟩, ?_⟩
  · obtain ⟨cell, b1, b2, b3, b4, b5, b6, b7⟩ := a4
    refine ⟨cell, b1, b2, b3, b4, b5, fun j hj => ?_, b7⟩
    rw [b6 j hj]
    show some (Value.int ((List.map Int32.ofInt sbL_).getD j 0)) = some (Value.int (Int32.ofInt (sbL_.getD j 0)))
    rw [List.getD_eq_getElem?_getD, List.getD_eq_getElem?_getD, List.getElem?_map]
    cases sbL_[j]? <;> rfl
  · exact va_Zof (hts _ (by decide +kernel)) (hts _ (by decide +kernel)) (va_eqi (nf_at (by decide +kernel) hgv)) hA
  · exact va_Zof (hts _ (by decide +kernel)) (hts _ (by decide +kernel)) hz1 hA
  · cases z <;> simp_all [Value.isRef]
  · exact vk_R.of (hts _ (by decide +kernel)) a5
