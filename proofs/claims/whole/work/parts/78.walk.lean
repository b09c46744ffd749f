/-! the law, from its entry: its function, and its walk -/
noncomputable def fL_0 (xs : Int → Int) (L : Int) : Option (Int × V_) :=
  bd_ (fX11_init 1 (zr_ (fun _ _ => 0) 1)) fun q =>
  bd_ (fX12_init 814 (zr_ q.2 814)) fun q2 =>
  ckp_ (St_ FD_ q2.2) (fL_18 xs L fu_ 0 q2.2)
theorem fd_pg : Pg_ FD_ := ⟨⟨by decide, by decide⟩, ⟨by decide, by decide⟩⟩
set_option maxRecDepth 100000 in
theorem whole_start0 {p : Program} {e : Env} {s : State} {m : MethodId} {below : List Frame} {meth : Method} {c : Code} (l : Launch) {b L : Nat} {xs : Nat → Int32} (hL : L ≤ 3072) (C0 : lw_At p s m meth c b L xs) {out : Int × V_} (h : fL_0 (fun j => (xs j.toNat).toInt) (L : Int) = some out) (ho : out.1 = 1) : W p l e room_1 s m #[Value.ref b] below meth c s.heap [] 0 0 (lw_Z below #[Value.ref b] s) (entryFrame m ([Value.ref b] : List Value).toArray 4) := by
  obtain ⟨hx, hb, hr, hml, hown, hts, hX, hbl, hlk, hgv⟩ := id C0
  have hA : KA_ s := ⟨va_AO.of (hts _ (by decide +kernel)), va_AO.of (hts _ (by decide +kernel)), va_AO.of (hts _ (by decide +kernel)), kaa_of (hts _ (by decide +kernel))⟩
  obtain ⟨dC, dI, ar, hK⟩ := kk_entry hts hA (s.heap.size - 1) s.heap
  generalize hEq : ((s.heap.size - 1, s.heap, dC, dI, ar, fun _ => False) : En_) = E at hK
  have hE1 : E.1 + 1 = s.heap.size := by rw [← hEq]; show s.heap.size - 1 + 1 = _; omega
  have hE2 : E.2.1 = s.heap := by rw [← hEq]
  have hE : ∀ a, ¬ E.2.2.2.2.2 a := by rw [← hEq]; exact fun a h => h
  obtain ⟨aK, aV, hS⟩ := ks_ex E hE1 hE2 hts hgv
  have hXS : SX_ E b L xs s := ⟨by rw [hE2]; exact hX, by unfold SA_; omega, by omega⟩
  have C : MC_ E p s m c code 4 "TraceDeskLaw" := ⟨hx, hb, hml, hown, hK⟩
  have hI : In_ E (fun _ _ => 0) 1 s.heap := by
    refine ⟨by rw [← hE1]; rfl, by decide, fun q _ => by rw [hE2], fun a h1 h2 => by omega, fun a ha => absurd ha (hE a)⟩
  suffices G : G_ E p l e room_1 s m #[.ref b] below meth c 4 1 (lw_Z below #[.ref b] s) 0 [(0, (3, (b : Int)))] [] (fun _ _ => 0) 1 by
    have h1 := G s.heap [] _ [] hI (fun q hq => by cases hq) ⟨lv_args 0 [Value.ref b], lv_entry [Value.ref b] (n := 4) (Nat.le_of_ble_eq_true rfl), ml_args 0 (B := E.1) (as := [(3, (b : Int))]) ⟨_, [], rfl, rfl, rfl⟩⟩ rfl
    rw [lg_entry_eq]
    exact h1
  clear hI
  rw [fL_0] at h
  have T1 : (0 : Int) < 1 ∧ ty_ 1 = 11 ∧ ln_ 1 = 0 := by decide +kernel
  have T2 : (0 : Int) < 814 ∧ ty_ 814 = 12 ∧ ln_ 814 = 0 := by decide +kernel
  refine g_new C okX11 kcl_L_7 kins_X11 kin_X11_init hE T1.2.1 gtX11 (by decide) ⟨by decide, by decide⟩ (by decide) dL_law_0 ?_
  refine g_dup C (Nat.ne_of_beq_eq_false rfl) dL_law_3 ?_
  obtain ⟨q, eq, h⟩ := bd_e h
  refine g_callIT C (K := 812) hA hS (cX11_init_ok l hE T1 eq) ⟨by decide, by decide⟩ km_L_9 kim_X11_init kin_X11_init kco_X11_init ⟨by decide +kernel, by decide +kernel, by decide +kernel⟩ rfl ⟨by decide, by decide⟩ rfl rfl (by decide) ⟨by decide, by decide⟩ (Nat.le_of_ble_eq_true rfl) dL_law_4 ?_
  refine g_sz (sz' := 814) (by decide) ?_
  refine g_astore_n C (f := 1) dL_law_7 (by decide) rfl ?_
  refine g_new C okX12 kcl_L_10 kins_X12 kin_X12_init hE T2.2.1 gtX12 (by decide) ⟨by decide, by decide⟩ (by decide) dL_law_8 ?_
  refine g_dup C (Nat.ne_of_beq_eq_false rfl) dL_law_11 ?_
  obtain ⟨q2, eq2, h⟩ := bd_e h
  refine g_callI C (K := 58) hA (cX12_init_ok l hE T2 eq2) ⟨by decide, by decide⟩ km_L_12 kim_X12_init kin_X12_init kco_X12_init ⟨by decide +kernel, by decide +kernel, by decide +kernel⟩ rfl ⟨by decide, by decide⟩ rfl rfl (by decide) ⟨by decide, by decide⟩ (Nat.le_of_ble_eq_true rfl) dL_law_12 ?_
  refine g_sz (sz' := 873) (by decide) ?_
  refine g_astore_n C (f := 2) dL_law_15 (by decide) rfl ?_
  refine g_iconst C (n := 0) dL_law_16 (by decide) ?_
  refine g_istore_n C (f := 3) dL_law_17 (by decide) rfl ?_
  obtain ⟨hst, h⟩ := ckp_e h
  refine g_in (D := FD_) hst ?_
  refine g_sub [3, 2, 1, 0] rfl rfl ?_
  exact tL_18 (E := E0_ E FD_) C hr hlk hE1 hXS fd_cl fd_pg ⟨⟨by decide, by decide⟩, T1.2⟩ ⟨⟨by decide, by decide⟩, T2.2⟩ ho fu_ 0 q2.2 h
