/-! rows over the memory: fields, arrays -/
theorem tb_in (ws : List Cond) (ps : List Nat) (hp : ws = ps.filterMap (fun i => lw_tbl[i]?)) (h : ws.all gw_ = true) : ∀ w ∈ ws, w ∈ tb_ := by
  intro w hw
  refine tb_mem ?_ (List.all_eq_true.mp h w hw)
  rw [hp] at hw
  obtain ⟨i, _, hi⟩ := List.mem_filterMap.mp hw
  exact List.mem_of_getElem? hi
theorem tb_at {w : Cond} (i : Nat) (hp : lw_tbl[i]? = some w) (h : gw_ w = true) : w ∈ tb_ := tb_mem (List.mem_of_getElem? hp) h
def cl_ok (ci : Nat) (C : String) (T : u_T) (N : Nat) (ty : Nat → FieldType) : Prop := vwCl[ci]? = some (C, T, N) ∧ (∀ w ∈ u_ws C T N, w ∈ tb_) ∧ (∀ k, k < N → parseFieldDescriptor (T k).2.2.1 = some (ty k)) ∧ (∀ a, a < N → ∀ b, b < N → a ≠ b → (T a).2.1 ≠ (T b).2.1) ∧ nf_ ci = N ∧ (∀ k, ft_ ci k = ty k) ∧ (∀ k, k < N → (T k).1 = C) ∧ ci < 20
theorem up_same (v : V_) (a k x : Int) : up_ v a k x a k = x := by simp [up_]
theorem up_ne (v : V_) {a k x b j : Int} (h : ¬ (b = a ∧ j = k)) : up_ v a k x b j = v b j := by simp only [up_, if_neg h]
theorem ce_kept {E : En_} {v v' : V_} {H H' : Heap} {a : Int} (h : ce_ E v H a) (hq : H'[E.1 + a.toNat]? = H[E.1 + a.toNat]?) (hv : ∀ k : Nat, v' a k = v a k) : ce_ E v' H' a := by
  unfold ce_ at h ⊢
  split at h
  · rename_i h1
    obtain ⟨w, h2, h3⟩ := h
    rw [if_pos h1]
    exact ⟨w, h2.kept hq, fun k hk => by rw [hv k]; exact h3 k hk⟩
  · rename_i h1
    obtain ⟨w, h2, h3⟩ := h
    rw [if_neg h1]
    exact ⟨w, by rw [hq]; exact h2, fun k hk => by rw [hv k]; exact h3 k hk⟩
theorem In_up {E : En_} {v : V_} {sz h k x : Int} {H H' : Heap} (hI : In_ E v sz H) (hr : 0 < h ∧ h < sz) (z : H'.size = H.size) (oq : ∀ q : Nat, q ≠ E.1 + h.toNat → H'[q]? = H[q]?) (hce : ce_ E (up_ v h k x) H' h) (hs : E.2.2.2.2.2 h → ∀ (j : Nat) (o : Int), of_ (ty_ h) (ln_ h) j = some o → (j : Int) = k → x = h + o) : In_ E (up_ v h k x) sz H' := by
  obtain ⟨i1, i2, i3, i4, i5⟩ := hI
  refine ⟨by rw [z]; exact i1, i2, fun q hq => by rw [oq q (by omega)]; exact i3 q hq, fun a ha1 ha2 => ?_, fun a ha j o ho => ?_⟩
  · by_cases e : a = h
    · subst e; exact hce
    · exact ce_kept (i4 a ha1 ha2) (oq _ (by omega)) (fun j => up_ne v (fun q => e q.1))
  · by_cases e : a = h ∧ (j : Int) = k
    · obtain ⟨e1, e2⟩ := e
      subst e1; subst e2
      rw [up_same]
      exact hs ha j o ho rfl
    · rw [up_ne v e]
      exact i5 a ha j o ho
section GM
variable {E : En_} {p : Program} {l : Launch} {e : Env} {R : Room} {s : State} {m : MethodId} {args : Array Value} {below : List Frame} {meth : Method} {c : Code} {nL : Nat} {sz0 sz : Int} {Q : State → Prop} {cc : ByteArray} {own : String} {pc : Nat} {ls : List (Nat × AV_)} {st : List AV_} {v : V_} {x y h i : Int}
theorem ce_obj {H : Heap} {ci N : Nat} {Cn : String} {T : u_T} {ty : Nat → FieldType} (hI : In_ E v sz H) (hc : cl_ok ci Cn T N ty) (hr : 0 < h ∧ h < sz) (ht : ty_ h = ci) : ∃ w : Nat → Value, t_OB (E.1 + h.toNat) (E.2.2.1 ci) N (E.2.2.2.1 ci) H w ∧ ∀ k : Nat, k < N → vo_ E.1 (kd_ (ty k)) (v h k) (w k) := by
  obtain ⟨o1, o2, o3, o4, o5, o6, o7, o8⟩ := hc
  have hce := hI.2.2.2.1 h hr.1 hr.2
  unfold ce_ at hce
  rw [if_pos (by rw [ht]; exact o8)] at hce
  rw [ht, o5] at hce
  obtain ⟨w, h1, h2⟩ := hce
  exact ⟨w, h1, fun k hk => by rw [← o6 k]; exact h2 k hk⟩
theorem ce_obj_of {H : Heap} {ci N : Nat} {Cn : String} {T : u_T} {ty : Nat → FieldType} {v : V_} {w : Nat → Value} (hc : cl_ok ci Cn T N ty) (ht : ty_ h = ci) (h1 : t_OB (E.1 + h.toNat) (E.2.2.1 ci) N (E.2.2.2.1 ci) H w) (h2 : ∀ k : Nat, k < N → vo_ E.1 (kd_ (ty k)) (v h k) (w k)) : ce_ E v H h := by
  obtain ⟨o1, o2, o3, o4, o5, o6, o7, o8⟩ := hc
  unfold ce_
  rw [if_pos (by rw [ht]; exact o8)]
  rw [ht, o5]
  exact ⟨w, h1, fun k hk => by rw [o6 k]; exact h2 k hk⟩
theorem ce_arr {H : Heap} {t n : Nat} (hI : In_ E v sz H) (hr : 0 < h ∧ h < sz) (ht : ty_ h = t) (hl : ln_ h = n) (h20 : ¬ t < 20) : ∃ w : Nat → Value, H[E.1 + h.toNat]? = some (arrV (E.2.2.2.2.1 (t - 20)) n w) ∧ ∀ k : Nat, k < n → vo_ E.1 (kd_ (at_ (t - 20))) (v h k) (w k) := by
  have hce := hI.2.2.2.1 h hr.1 hr.2
  unfold ce_ at hce
  rw [if_neg (by rw [ht]; exact h20)] at hce
  rw [ht, hl] at hce
  exact hce
theorem ce_arr_of {H : Heap} {t n : Nat} {v : V_} {w : Nat → Value} (ht : ty_ h = t) (hl : ln_ h = n) (h20 : ¬ t < 20) (h1 : H[E.1 + h.toNat]? = some (arrV (E.2.2.2.2.1 (t - 20)) n w)) (h2 : ∀ k : Nat, k < n → vo_ E.1 (kd_ (at_ (t - 20))) (v h k) (w k)) : ce_ E v H h := by
  unfold ce_
  rw [if_neg (by rw [ht]; exact h20)]
  rw [ht, hl]
  exact ⟨w, h1, h2⟩
theorem g_getf (C : MC_ E p s m c cc nL own) {ci k index N kd : Nat} {Cn : String} {T : u_T} {ty : Nat → FieldType} (hc : cl_ok ci Cn T N ty) (hk : k < N) (hw : Cond.fieldLink own index Cn (T k).2.1 (T k).2.2.1 ∈ tb_) (hd : decode cc pc = .ok (.getfield index, 3)) (hr : 0 < h ∧ h < sz) (ht : ty_ h = ci) (hkd : kd_ (ty k) = kd) (kk : G_ E p l e R s m args below meth c nL sz0 Q (pc + 3) ls ((kd, v h k) :: st) v sz) : G_ E p l e R s m args below meth c nL sz0 Q pc ls ((2, h) :: st) v sz := fun H locs lr sr hI hL hl hs => by
  obtain ⟨_, zr, rfl, h1, hs⟩ := hs
  rcases h1 with ⟨e3, rfl⟩ | ⟨e3, rfl⟩
  · omega
  obtain ⟨w, ⟨cell, q1, q2, q3, q4⟩, hw2⟩ := ce_obj hI hc hr ht
  obtain ⟨o1, o2, o3, o4, o5, o6, o7, o8⟩ := hc
  have hKs := C.2.2.2.2
  obtain ⟨hS, hfc, kC, hkC, hkind⟩ := hKs.2.1 ci _ o1
  obtain ⟨cf, kf, fi, f, hi0, hsl⟩ := hS k hk
  have hi := hi0
  rw [show ((Cn, T, N) : vw_C).2.1 = T from rfl, o7 k hk] at hi
  refine W.getf C.1 C.2.1 C.2.2.2.1 (hKs.at args _ hw) hi (u_facts hfc hkC (u_lays (hKs.at args) o2 hk) hi0).1 q1 (by rw [q3]; exact fun h => by cases h) (v := w k) ?_ rfl rfl hd (kk H locs lr _ hI hL hl ⟨_, _, rfl, ?_, hs⟩)
  · rw [hsl, q4 k hk]
  · have h5 := hw2 k hk
    rw [hkd] at h5
    exact h5
/-- a static reference: its offset is known -/
theorem g_getR (C : MC_ E p s m c cc nL own) {ci k index N : Nat} {o : Int} {Cn : String} {T : u_T} {ty : Nat → FieldType} (hc : cl_ok ci Cn T N ty) (hk : k < N) (hw : Cond.fieldLink own index Cn (T k).2.1 (T k).2.2.1 ∈ tb_) (hd : decode cc pc = .ok (.getfield index, 3)) (hC : Cl_ E.2.2.2.2.2 sz) (hD : E.2.2.2.2.2 h) (ht : ty_ h = ci) (hkd : kd_ (ty k) = 2) (ho : ofO_ ci k = some o) (kk : G_ E p l e R s m args below meth c nL sz0 Q (pc + 3) ls ((2, h + o) :: st) v sz) : G_ E p l e R s m args below meth c nL sz0 Q pc ls ((2, h) :: st) v sz := fun H locs lr sr hI hL hl hs => by
  have e1 : v h k = h + o := hI.2.2.2.2 h hD k o (by rw [ht]; unfold of_; rw [if_pos hc.2.2.2.2.2.2.2]; exact ho)
  have h2 := hC h hD
  exact g_getf C hc hk hw hd ⟨h2.1, h2.2.1⟩ ht hkd (by rw [e1]; exact kk) H locs lr sr hI hL hl hs
theorem g_putf (C : MC_ E p s m c cc nL own) {ci k index N kd : Nat} {Cn : String} {T : u_T} {ty : Nat → FieldType} (hc : cl_ok ci Cn T N ty) (hk : k < N) (hw : Cond.fieldLink own index Cn (T k).2.1 (T k).2.2.1 ∈ tb_) (hd : decode cc pc = .ok (.putfield index, 3)) (hr : 0 < h ∧ h < sz) (ht : ty_ h = ci) (hkd : kd_ (ty k) = kd) (hfin : (T k).2.2.2 = false) (hv : ∀ z, vo_ E.1 kd x z → narrow (ty k) z = z ∧ fits (ty k) z = true) (ho : ofO_ ci k = none ∨ ¬ E.2.2.2.2.2 h) (v' : V_) (hv' : v' = up_ v h k x) (kk : G_ E p l e R s m args below meth c nL sz0 Q (pc + 3) ls st v' sz) : G_ E p l e R s m args below meth c nL sz0 Q pc ls ((kd, x) :: (2, h) :: st) v sz := fun H locs lr sr hI hL hl hs => by
  subst hv'
  obtain ⟨z, zr, rfl, h0, hs⟩ := hs
  obtain ⟨_, zr2, rfl, h1, hs⟩ := hs
  rcases h1 with ⟨e3, rfl⟩ | ⟨e3, rfl⟩
  · omega
  obtain ⟨w, ⟨cell, q1, q2, q3, q4⟩, hw2⟩ := ce_obj hI hc hr ht
  have hc0 := hc
  obtain ⟨o1, o2, o3, o4, o5, o6, o7, o8⟩ := hc
  have hKs := C.2.2.2.2
  have hts := hKs.at args
  have hap := va_apart (own := own) hts o2 ty o3 o4 hKs.2 o1
  obtain ⟨hS, hfc, kC, hkC, hkind⟩ := hKs.2.1 ci _ o1
  obtain ⟨cf, kf, fi, f, hi0, hsl⟩ := hS k hk
  have hi := hi0
  rw [show ((Cn, T, N) : vw_C).2.1 = T from rfl, o7 k hk] at hi
  have hlay := hts _ (o2 _ (u_in_lay hk))
  unfold u_lay at hlay
  rw [if_neg (by rw [hfin]; decide)] at hlay
  have hst := (u_facts hfc hkC (u_lays hts o2 hk) hi0).1
  obtain ⟨hn, hfit⟩ := hv z h0
  have h6 := u_store hfc hkC hkind hlay hi0 (o3 k hk) hn hfit
  refine W.putK C.1 C.2.1 (f := f) ⟨C.2.2.2.1, hts _ hw, ⟨_, _, _, hi⟩, hst⟩ (by rw [q2]; exact h6) q1 q3 (by rw [hsl]; exact k2_hasslot (q4 k hk)) rfl rfl hd fun H' e1 e2 e4 => ?_
  rw [hsl] at e1
  refine kk H' _ lr _ (In_up hI hr e2 e4 (ce_obj_of hc0 ht (w := updV w k z) ⟨_, e1, q2, q3, t_set q4 hap hk z⟩ fun j hj => ?_) fun hD j o ho2 hj => ?_) ?_ hl hs
  · by_cases e : j = k
    · subst e
      rw [up_same, show updV w j z j = z from if_pos rfl, hkd]
      exact h0
    · rw [up_ne v (fun q => e (by omega)), show updV w k z j = w j from if_neg e]
      exact hw2 j hj
  · have hj2 : j = k := by omega
    subst hj2
    rcases ho with ho | ho
    · rw [ht] at ho2
      unfold of_ at ho2
      rw [if_pos o8, ho] at ho2
      cases ho2
    · exact absurd hD ho
  · intro q hq
    rcases List.mem_append.mp hq with h5 | h5
    · exact hL q h5
    · rw [List.mem_singleton.mp h5]
      show E.1 < E.1 + h.toNat
      omega
theorem inI {n : Nat} {X : Int32} (h : 0 ≤ X.toInt ∧ X.toInt < (n : Int)) : ¬ (X < 0 ∨ n ≤ X.toNatClampNeg) ∧ X.toNatClampNeg = X.toInt.toNat ∧ X.toInt.toNat < n := by
  have e : X.toNatClampNeg = X.toInt.toNat := rfl
  refine ⟨fun q => ?_, e, by omega⟩
  rcases q with q | q
  · rw [Int32.lt_iff_toInt_lt, z32] at q
    omega
  · rw [e] at q
    omega
theorem g_iald (C : MC_ E p s m c cc nL own) (n : Nat) (hd : decode cc pc = .ok (.iaload, 1)) (hr : 0 < h ∧ h < sz) (ht : ty_ h = 20) (hl0 : ln_ h = n) (hi : 0 ≤ i ∧ i < (n : Int)) (kk : G_ E p l e R s m args below meth c nL sz0 Q (pc + 1) ls ((0, v h i) :: st) v sz) : G_ E p l e R s m args below meth c nL sz0 Q pc ls ((0, i) :: (2, h) :: st) v sz := fun H locs lr sr hI hL hl hs => by
  obtain ⟨_, zr, rfl, ⟨X, rfl, rfl⟩, hs⟩ := hs
  obtain ⟨_, zr2, rfl, h1, hs⟩ := hs
  rcases h1 with ⟨e3, rfl⟩ | ⟨e3, rfl⟩
  · omega
  obtain ⟨w, c1, c2⟩ := ce_arr hI hr ht hl0 (by decide)
  obtain ⟨b1, b2, b3⟩ := inI hi
  have hv := c2 _ b3
  rw [Int.toNat_of_nonneg hi.1] at hv
  exact W.iald (v := w X.toInt.toNat) C.1 C.2.1 c1 ((C.2.2.2.2.2.2 0 _ rfl).1 n w) (fun q => by cases q) (by rw [arrV_size]; exact b1) (by rw [b2, arrV_read _ _ b3]) rfl rfl hd (kk H locs lr _ hI hL hl ⟨_, _, rfl, hv, hs⟩)
theorem g_bald (C : MC_ E p s m c cc nL own) (n : Nat) (hd : decode cc pc = .ok (.baload, 1)) (hr : 0 < h ∧ h < sz) (ht : ty_ h = 21) (hl0 : ln_ h = n) (hi : 0 ≤ i ∧ i < (n : Int)) (kk : G_ E p l e R s m args below meth c nL sz0 Q (pc + 1) ls ((0, v h i) :: st) v sz) : G_ E p l e R s m args below meth c nL sz0 Q pc ls ((0, i) :: (2, h) :: st) v sz := fun H locs lr sr hI hL hl hs => by
  obtain ⟨_, zr, rfl, ⟨X, rfl, rfl⟩, hs⟩ := hs
  obtain ⟨_, zr2, rfl, h1, hs⟩ := hs
  rcases h1 with ⟨e3, rfl⟩ | ⟨e3, rfl⟩
  · omega
  obtain ⟨w, c1, c2⟩ := ce_arr hI hr ht hl0 (by decide)
  obtain ⟨b1, b2, b3⟩ := inI hi
  have hv := c2 _ b3
  rw [Int.toNat_of_nonneg hi.1] at hv
  exact W.bald (v := w X.toInt.toNat) C.1 C.2.1 c1 ((C.2.2.2.2.2.2 1 _ rfl).1 n w) (fun q => by cases q) (by rw [arrV_size]; exact b1) (by rw [b2, arrV_read _ _ b3]) rfl rfl hd (kk H locs lr _ hI hL hl ⟨_, _, rfl, hv, hs⟩)
theorem g_zald (C : MC_ E p s m c cc nL own) (n : Nat) (hd : decode cc pc = .ok (.baload, 1)) (hr : 0 < h ∧ h < sz) (ht : ty_ h = 23) (hl0 : ln_ h = n) (hi : 0 ≤ i ∧ i < (n : Int)) (kk : G_ E p l e R s m args below meth c nL sz0 Q (pc + 1) ls ((0, v h i) :: st) v sz) : G_ E p l e R s m args below meth c nL sz0 Q pc ls ((0, i) :: (2, h) :: st) v sz := fun H locs lr sr hI hL hl hs => by
  obtain ⟨_, zr, rfl, ⟨X, rfl, rfl⟩, hs⟩ := hs
  obtain ⟨_, zr2, rfl, h1, hs⟩ := hs
  rcases h1 with ⟨e3, rfl⟩ | ⟨e3, rfl⟩
  · omega
  obtain ⟨w, c1, c2⟩ := ce_arr hI hr ht hl0 (by decide)
  obtain ⟨b1, b2, b3⟩ := inI hi
  have hv := c2 _ b3
  rw [Int.toNat_of_nonneg hi.1] at hv
  exact W.zald (v := w X.toInt.toNat) C.1 C.2.1 c1 ((C.2.2.2.2.2.2 3 _ rfl).1 n w) (fun q => by cases q) (by rw [arrV_size]; exact b1) (by rw [b2, arrV_read _ _ b3]) rfl rfl hd (kk H locs lr _ hI hL hl ⟨_, _, rfl, hv, hs⟩)
theorem g_lald (C : MC_ E p s m c cc nL own) (n : Nat) (hd : decode cc pc = .ok (.laload, 1)) (hr : 0 < h ∧ h < sz) (ht : ty_ h = 22) (hl0 : ln_ h = n) (hi : 0 ≤ i ∧ i < (n : Int)) (kk : G_ E p l e R s m args below meth c nL sz0 Q (pc + 1) ls ((1, v h i) :: st) v sz) : G_ E p l e R s m args below meth c nL sz0 Q pc ls ((0, i) :: (2, h) :: st) v sz := fun H locs lr sr hI hL hl hs => by
  obtain ⟨_, zr, rfl, ⟨X, rfl, rfl⟩, hs⟩ := hs
  obtain ⟨_, zr2, rfl, h1, hs⟩ := hs
  rcases h1 with ⟨e3, rfl⟩ | ⟨e3, rfl⟩
  · omega
  obtain ⟨w, c1, c2⟩ := ce_arr hI hr ht hl0 (by decide)
  obtain ⟨b1, b2, b3⟩ := inI hi
  have hv := c2 _ b3
  rw [Int.toNat_of_nonneg hi.1] at hv
  exact W.lald (v := w X.toInt.toNat) C.1 C.2.1 c1 ((C.2.2.2.2.2.2 2 _ rfl).1 n w) (fun q => by cases q) (by rw [arrV_size]; exact b1) (by rw [b2, arrV_read _ _ b3]) rfl rfl hd (kk H locs lr _ hI hL hl ⟨_, _, rfl, hv, hs⟩)
/-- an element of a static array of references -/
theorem g_aald (C : MC_ E p s m c cc nL own) (t n : Nat) (o0 o1 : Int) (hd : decode cc pc = .ok (.aaload, 1)) (hC : Cl_ E.2.2.2.2.2 sz) (hD : E.2.2.2.2.2 h) (ht : ty_ h = t) (hl0 : ln_ h = n) (hi : 0 ≤ i ∧ i < (n : Int)) (hq : t = 24 ∨ t = 25 ∨ t = 26 ∨ t = 27) (ho : ∀ k : Nat, k < n → ofA_ t n k = some (o0 + o1 * (k : Int))) (kk : G_ E p l e R s m args below meth c nL sz0 Q (pc + 1) ls ((2, h + (o0 + o1 * i)) :: st) v sz) : G_ E p l e R s m args below meth c nL sz0 Q pc ls ((0, i) :: (2, h) :: st) v sz := fun H locs lr sr hI hL hl hs => by
  obtain ⟨_, zr, rfl, ⟨X, rfl, rfl⟩, hs⟩ := hs
  obtain ⟨_, zr2, rfl, h1, hs⟩ := hs
  have h2 := hC h hD
  rcases h1 with ⟨e3, rfl⟩ | ⟨e3, rfl⟩
  · omega
  have h20 : ¬ t < 20 := by omega
  obtain ⟨w, c1, c2⟩ := ce_arr hI ⟨h2.1, h2.2.1⟩ ht hl0 h20
  obtain ⟨b1, b2, b3⟩ := inI hi
  have hv := c2 _ b3
  have e1 : v h (X.toInt.toNat : Int) = h + (o0 + o1 * (X.toInt.toNat : Int)) := hI.2.2.2.2 h hD _ _ (by rw [ht, hl0]; unfold of_; rw [if_neg h20]; exact ho _ b3)
  rw [e1, Int.toNat_of_nonneg hi.1] at hv
  have hA : s.isArrayOf (arrV (E.2.2.2.2.1 (t - 20)) n w) (at_ (t - 20)) := by
    rcases hq with rfl | rfl | rfl | rfl
    · exact (C.2.2.2.2.2.2 4 _ rfl).1 n w
    · exact (C.2.2.2.2.2.2 5 _ rfl).1 n w
    · exact (C.2.2.2.2.2.2 6 _ rfl).1 n w
    · exact (C.2.2.2.2.2.2 7 _ rfl).1 n w
  have hkd : kd_ (at_ (t - 20)) = 2 := by rcases hq with rfl | rfl | rfl | rfl <;> rfl
  have hrf : (at_ (t - 20)).isReference = true := by rcases hq with rfl | rfl | rfl | rfl <;> rfl
  rw [hkd] at hv
  exact W.aald (v := w X.toInt.toNat) C.1 C.2.1 c1 hA hrf (fun q => by cases q) (by rw [arrV_size]; exact b1) (by rw [b2, arrV_read _ _ b3]) rfl rfl hd (kk H locs lr _ hI hL hl ⟨_, _, rfl, hv, hs⟩)
theorem In_st {H H' : Heap} {t n : Nat} {z : Value} {X : Int32} (hI : In_ E v sz H) (hr : 0 < h ∧ h < sz) (ht : ty_ h = t) (hl0 : ln_ h = n) (h20 : 20 ≤ t ∧ t < 24) (b : X.toInt = i) (hi : 0 ≤ i ∧ i < (n : Int)) {w : Nat → Value} (c1 : H[E.1 + h.toNat]? = some (arrV (E.2.2.2.2.1 (t - 20)) n w)) (c2 : ∀ k : Nat, k < n → vo_ E.1 (kd_ (at_ (t - 20))) (v h k) (w k)) (hz : vo_ E.1 (kd_ (at_ (t - 20))) x z) (e : H'[E.1 + h.toNat]? = some ((arrV (E.2.2.2.2.1 (t - 20)) n w).setSlot X.toNatClampNeg z)) (z1 : H'.size = H.size) (oq : ∀ q, q ≠ E.1 + h.toNat → H'[q]? = H[q]?) : In_ E (up_ v h i x) sz H' := by
  subst b
  have e2 : X.toNatClampNeg = X.toInt.toNat := rfl
  rw [arrV_store, e2] at e
  refine In_up hI hr z1 oq (ce_arr_of ht hl0 (by omega) e fun k hk => ?_) fun hD j o ho hj => ?_
  · by_cases q : k = X.toInt.toNat
    · subst q
      rw [Int.toNat_of_nonneg hi.1, up_same, show updV w X.toInt.toNat z X.toInt.toNat = z from if_pos rfl]
      exact hz
    · rw [up_ne v (fun q2 => q (by omega)), show updV w X.toInt.toNat z k = w k from if_neg q]
      exact c2 k hk
  · exfalso
    rw [ht, hl0] at ho
    unfold of_ at ho
    rw [if_neg (by omega)] at ho
    unfold ofA_ at ho
    split at ho
    · cases ho
    · rw [if_neg (by omega), if_neg (by omega), if_neg (by omega), if_neg (by omega)] at ho
      cases ho
theorem lc_st {locs : List Loc} {k : Nat} (hL : ∀ q ∈ locs, E.1 < q.base) (hr : 0 < h ∧ h < sz) : ∀ q ∈ locs ++ [(⟨E.1 + h.toNat, k⟩ : Loc)], E.1 < q.base := by
  intro q hq
  rcases List.mem_append.mp hq with h5 | h5
  · exact hL q h5
  · rw [List.mem_singleton.mp h5]
    show E.1 < E.1 + h.toNat
    omega
theorem g_iast (C : MC_ E p s m c cc nL own) (n : Nat) (hd : decode cc pc = .ok (.iastore, 1)) (hr : 0 < h ∧ h < sz) (ht : ty_ h = 20) (hl0 : ln_ h = n) (hi : 0 ≤ i ∧ i < (n : Int)) (v' : V_) (hv' : v' = up_ v h i x) (kk : G_ E p l e R s m args below meth c nL sz0 Q (pc + 1) ls st v' sz) : G_ E p l e R s m args below meth c nL sz0 Q pc ls ((0, x) :: (0, i) :: (2, h) :: st) v sz := fun H locs lr sr hI hL hl hs => by
  subst hv'
  obtain ⟨_, zr, rfl, ⟨Y, rfl, ey⟩, hs⟩ := hs
  obtain ⟨_, zr, rfl, ⟨X, rfl, ex⟩, hs⟩ := hs
  obtain ⟨_, zr2, rfl, h1, hs⟩ := hs
  rcases h1 with ⟨e3, rfl⟩ | ⟨e3, rfl⟩
  · omega
  obtain ⟨w, c1, c2⟩ := ce_arr hI hr ht hl0 (by decide)
  obtain ⟨b1, b2, b3⟩ := inI (X := X) (by rw [ex]; exact hi)
  exact W.iast C.1 C.2.1 c1 ((C.2.2.2.2.2.2 0 _ rfl).1 n w) (fun q => by cases q) (by rw [arrV_size]; exact b1) rfl rfl hd fun H1 e z oq => kk H1 _ lr _ (In_st hI hr ht hl0 (by decide) ex hi c1 c2 ⟨Y, rfl, ey⟩ e z oq) (lc_st hL hr) hl hs
theorem g_last (C : MC_ E p s m c cc nL own) (n : Nat) (hd : decode cc pc = .ok (.lastore, 1)) (hr : 0 < h ∧ h < sz) (ht : ty_ h = 22) (hl0 : ln_ h = n) (hi : 0 ≤ i ∧ i < (n : Int)) (v' : V_) (hv' : v' = up_ v h i x) (kk : G_ E p l e R s m args below meth c nL sz0 Q (pc + 1) ls st v' sz) : G_ E p l e R s m args below meth c nL sz0 Q pc ls ((1, x) :: (0, i) :: (2, h) :: st) v sz := fun H locs lr sr hI hL hl hs => by
  subst hv'
  obtain ⟨_, zr, rfl, ⟨Y, rfl, ey⟩, hs⟩ := hs
  obtain ⟨_, zr, rfl, ⟨X, rfl, ex⟩, hs⟩ := hs
  obtain ⟨_, zr2, rfl, h1, hs⟩ := hs
  rcases h1 with ⟨e3, rfl⟩ | ⟨e3, rfl⟩
  · omega
  obtain ⟨w, c1, c2⟩ := ce_arr hI hr ht hl0 (by decide)
  obtain ⟨b1, b2, b3⟩ := inI (X := X) (by rw [ex]; exact hi)
  exact W.last C.1 C.2.1 c1 ((C.2.2.2.2.2.2 2 _ rfl).1 n w) (fun q => by cases q) (by rw [arrV_size]; exact b1) rfl rfl hd fun H1 e z oq => kk H1 _ lr _ (In_st hI hr ht hl0 (by decide) ex hi c1 c2 ⟨Y, rfl, ey⟩ e z oq) (lc_st hL hr) hl hs
theorem narrow_z {Y : Int32} (h : Y.toInt = 0 ∨ Y.toInt = 1) : narrow .boolean (.int Y) = .int Y ∧ fits .boolean (.int Y) = true := by
  rcases h with h | h
  · have e : Y = 0 := Int32.toInt_inj.mp h
    subst e
    exact ⟨by decide, by decide⟩
  · have e : Y = 1 := Int32.toInt_inj.mp h
    subst e
    exact ⟨by decide, by decide⟩
theorem narrow_b (Y : Int32) : narrow .byte (.int Y) = .int Y.toInt8.toInt32 := rfl
theorem g_zast (C : MC_ E p s m c cc nL own) (n : Nat) (hd : decode cc pc = .ok (.bastore, 1)) (hr : 0 < h ∧ h < sz) (ht : ty_ h = 23) (hl0 : ln_ h = n) (hi : 0 ≤ i ∧ i < (n : Int)) (hx : x = 0 ∨ x = 1) (v' : V_) (hv' : v' = up_ v h i x) (kk : G_ E p l e R s m args below meth c nL sz0 Q (pc + 1) ls st v' sz) : G_ E p l e R s m args below meth c nL sz0 Q pc ls ((0, x) :: (0, i) :: (2, h) :: st) v sz := fun H locs lr sr hI hL hl hs => by
  subst hv'
  obtain ⟨_, zr, rfl, ⟨Y, rfl, ey⟩, hs⟩ := hs
  obtain ⟨_, zr, rfl, ⟨X, rfl, ex⟩, hs⟩ := hs
  obtain ⟨_, zr2, rfl, h1, hs⟩ := hs
  rcases h1 with ⟨e3, rfl⟩ | ⟨e3, rfl⟩
  · omega
  obtain ⟨w, c1, c2⟩ := ce_arr hI hr ht hl0 (by decide)
  obtain ⟨b1, b2, b3⟩ := inI (X := X) (by rw [ex]; exact hi)
  exact W.zast C.1 C.2.1 c1 ((C.2.2.2.2.2.2 3 _ rfl).1 n w) (fun q => by cases q) (by rw [arrV_size]; exact b1) rfl rfl hd fun H1 e z oq => kk H1 _ lr _ (In_st hI hr ht hl0 (by decide) ex hi c1 c2 ⟨Y, (narrow_z (by rw [ey]; exact hx)).1, ey⟩ e z oq) (lc_st hL hr) hl hs
theorem g_bast (C : MC_ E p s m c cc nL own) (n : Nat) (hd : decode cc pc = .ok (.bastore, 1)) (hr : 0 < h ∧ h < sz) (ht : ty_ h = 21) (hl0 : ln_ h = n) (hi : 0 ≤ i ∧ i < (n : Int)) (v' : V_) (hv' : v' = up_ v h i (w8_ x)) (kk : G_ E p l e R s m args below meth c nL sz0 Q (pc + 1) ls st v' sz) : G_ E p l e R s m args below meth c nL sz0 Q pc ls ((0, x) :: (0, i) :: (2, h) :: st) v sz := fun H locs lr sr hI hL hl hs => by
  subst hv'
  obtain ⟨_, zr, rfl, ⟨Y, rfl, ey⟩, hs⟩ := hs
  obtain ⟨_, zr, rfl, ⟨X, rfl, ex⟩, hs⟩ := hs
  obtain ⟨_, zr2, rfl, h1, hs⟩ := hs
  rcases h1 with ⟨e3, rfl⟩ | ⟨e3, rfl⟩
  · omega
  obtain ⟨w, c1, c2⟩ := ce_arr hI hr ht hl0 (by decide)
  obtain ⟨b1, b2, b3⟩ := inI (X := X) (by rw [ex]; exact hi)
  exact W.bast C.1 C.2.1 c1 ((C.2.2.2.2.2.2 1 _ rfl).1 n w) (fun q => by cases q) (by rw [arrV_size]; exact b1) rfl rfl hd fun H1 e z oq => kk H1 _ lr _ (In_st hI hr ht hl0 (by decide) ex hi c1 c2 ⟨Y.toInt8.toInt32, narrow_b Y, by rw [Int8.toInt_toInt32, Int32.toInt_toInt8, bm8, ey]⟩ e z oq) (lc_st hL hr) hl hs
theorem g_alen (C : MC_ E p s m c cc nL own) (t n : Nat) (hd : decode cc pc = .ok (.arraylength, 1)) (hr : 0 < h ∧ h < sz) (ht : ty_ h = t) (hl0 : ln_ h = n) (h20 : 20 ≤ t ∧ t < 28) (hn : (Int32.ofNat n).toInt = (n : Int)) (kk : G_ E p l e R s m args below meth c nL sz0 Q (pc + 1) ls ((0, (n : Int)) :: st) v sz) : G_ E p l e R s m args below meth c nL sz0 Q pc ls ((2, h) :: st) v sz := fun H locs lr sr hI hL hl hs => by
  obtain ⟨_, zr2, rfl, h1, hs⟩ := hs
  rcases h1 with ⟨e3, rfl⟩ | ⟨e3, rfl⟩
  · omega
  obtain ⟨w, c1, c2⟩ := ce_arr hI hr ht hl0 (by omega)
  have hq : t = 20 ∨ t = 21 ∨ t = 22 ∨ t = 23 ∨ t = 24 ∨ t = 25 ∨ t = 26 ∨ t = 27 := by omega
  have hA : s.isArrayOf (arrV (E.2.2.2.2.1 (t - 20)) n w) (at_ (t - 20)) := by
    rcases hq with rfl | rfl | rfl | rfl | rfl | rfl | rfl | rfl
    · exact (C.2.2.2.2.2.2 0 _ rfl).1 n w
    · exact (C.2.2.2.2.2.2 1 _ rfl).1 n w
    · exact (C.2.2.2.2.2.2 2 _ rfl).1 n w
    · exact (C.2.2.2.2.2.2 3 _ rfl).1 n w
    · exact (C.2.2.2.2.2.2 4 _ rfl).1 n w
    · exact (C.2.2.2.2.2.2 5 _ rfl).1 n w
    · exact (C.2.2.2.2.2.2 6 _ rfl).1 n w
    · exact (C.2.2.2.2.2.2 7 _ rfl).1 n w
  exact W.alen (n := Int32.ofNat n) C.1 C.2.1 c1 hA (by rw [arrV_size]) rfl rfl hd (kk H locs lr _ hI hL hl ⟨_, _, rfl, ⟨_, rfl, hn⟩, hs⟩)
end GM
