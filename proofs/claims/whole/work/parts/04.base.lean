/-! my own layer over the kit's W rows: ONE flat memory of Ints for all cells from the law's entry on -/
abbrev V_ : Type := Int → Int → Int
def up_ (v : V_) (a k x : Int) : V_ := fun b j => if b = a ∧ j = k then x else v b j
def wr_ (x : Int) : Int := (x + 2147483648) % 4294967296 - 2147483648
def wl_ (x : Int) : Int := (x + 9223372036854775808) % 18446744073709551616 - 9223372036854775808
def w8_ (x : Int) : Int := (x + 128) % 256 - 128
abbrev AV_ : Type := Nat × Int
abbrev En_ : Type := Nat × Heap × (Nat → ClassId) × (Nat → Nat → Nat) × (Nat → ClassId) × (Int → Prop)
/-- an Int x of a kind (0 an int, 1 a long, else a reference) is the machine's value z -/
def vo_ (B : Nat) (k : Nat) (x : Int) (z : Value) : Prop := match k with
  | 0 => ∃ X : Int32, z = .int X ∧ X.toInt = x
  | 1 => ∃ X : Int64, z = .long X ∧ X.toInt = x
  | 3 => z = .ref x.toNat
  | _ => (x = 0 ∧ z = .null) ∨ (0 < x ∧ z = .ref (B + x.toNat))
def so_ (B : Nat) : List AV_ → List Value → Prop
  | [], zs => zs = []
  | a :: as, zs => ∃ z zr, zs = z :: zr ∧ vo_ B a.1 a.2 z ∧ so_ B as zr
def ml_ (B : Nat) : List (Nat × AV_) → List (Nat × Value) → Prop
  | [], zs => zs = []
  | a :: as, zs => ∃ z zr, zs = (a.1, z) :: zr ∧ vo_ B a.2.1 a.2.2 z ∧ ml_ B as zr
def lo_ (B n : Nat) (ls : List (Nat × AV_)) (lr : Array Slot) : Prop := ∃ l, lv_has lr n l ∧ ml_ B ls l
theorem vo_cat {B k : Nat} {x : Int} {z : Value} (h : vo_ B k x z) : z.category = if k = 1 then 2 else 1 := by
  unfold vo_ at h
  split at h
  · obtain ⟨X, h, _⟩ := h
    subst h; rfl
  · obtain ⟨X, h, _⟩ := h
    subst h; rfl
  · subst h; rfl
  · rename_i h0 h1 h3
    rw [if_neg (fun e => h1 e)]
    rcases h with ⟨_, h⟩ | ⟨_, h⟩ <;> (subst h; rfl)
theorem ml_get {B : Nat} : ∀ {ls : List (Nat × AV_)} {l : List (Nat × Value)} {k i : Nat} {a : AV_}, ml_ B ls l → ls[k]? = some (i, a) → ∃ z, l[k]? = some (i, z) ∧ vo_ B a.1 a.2 z
  | [], l, k, i, a, _, hk => by simp at hk
  | b :: ls, l, 0, i, a, ⟨z, zr, h1, h2, h3⟩, hk => by
    simp at hk; subst hk; subst h1
    exact ⟨z, by simp, h2⟩
  | b :: ls, l, k + 1, i, a, ⟨z, zr, h1, h2, h3⟩, hk => by
    subst h1
    simp at hk
    obtain ⟨w, e1, e2⟩ := ml_get h3 hk
    exact ⟨w, by simpa using e1, e2⟩
/-- what a store at i of one word leaves of the listed locals -/
def st1_ (i : Nat) (ls : List (Nat × AV_)) : List (Nat × AV_) := ls.filter (fun q => !(q.1 == i) && !(q.1 + 1 == i && q.2.1 == 1))
def st2_ (i : Nat) (ls : List (Nat × AV_)) : List (Nat × AV_) := ls.filter (fun q => !(q.1 == i) && (!(q.1 == i + 1) && !(q.1 + 1 == i && q.2.1 == 1)))
theorem cat_beq {B k : Nat} {x : Int} {z : Value} (h : vo_ B k x z) : (z.category == 2) = (k == 1) := by
  rw [vo_cat h]
  by_cases e : k = 1
  · subst e; rfl
  · rw [if_neg e]; simp [e]
theorem ml_st1 {B i : Nat} : ∀ {ls : List (Nat × AV_)} {l : List (Nat × Value)}, ml_ B ls l → ml_ B (st1_ i ls) (l.filter (fun q => !(q.1 == i) && !(q.1 + 1 == i && q.2.category == 2)))
  | [], l, h => by
    have h : l = [] := h
    subst h; rfl
  | b :: ls, l, ⟨z, zr, h1, h2, h3⟩ => by
    subst h1
    have ih := ml_st1 (i := i) h3
    have e : (!(b.1 == i) && !(b.1 + 1 == i && b.2.1 == 1)) = (!(b.1 == i) && !(b.1 + 1 == i && z.category == 2)) := by rw [cat_beq h2]
    cases hb : (!(b.1 == i) && !(b.1 + 1 == i && b.2.1 == 1)) with
    | true =>
      rw [st1_, List.filter_cons_of_pos (by simpa using hb), List.filter_cons_of_pos (by rw [← e]; exact hb)]
      exact ⟨z, _, rfl, h2, ih⟩
    | false =>
      rw [st1_, List.filter_cons_of_neg (by simpa using hb), List.filter_cons_of_neg (by rw [← e, hb]; decide)]
      exact ih
theorem ml_st2 {B i : Nat} : ∀ {ls : List (Nat × AV_)} {l : List (Nat × Value)}, ml_ B ls l → ml_ B (st2_ i ls) (l.filter (fun q => !(q.1 == i) && (!(q.1 == i + 1) && !(q.1 + 1 == i && q.2.category == 2))))
  | [], l, h => by
    have h : l = [] := h
    subst h; rfl
  | b :: ls, l, ⟨z, zr, h1, h2, h3⟩ => by
    subst h1
    have ih := ml_st2 (i := i) h3
    have e : (!(b.1 == i) && (!(b.1 == i + 1) && !(b.1 + 1 == i && b.2.1 == 1))) = (!(b.1 == i) && (!(b.1 == i + 1) && !(b.1 + 1 == i && z.category == 2))) := by rw [cat_beq h2]
    cases hb : (!(b.1 == i) && (!(b.1 == i + 1) && !(b.1 + 1 == i && b.2.1 == 1))) with
    | true =>
      rw [st2_, List.filter_cons_of_pos (by simpa using hb), List.filter_cons_of_pos (by rw [← e]; exact hb)]
      exact ⟨z, _, rfl, h2, ih⟩
    | false =>
      rw [st2_, List.filter_cons_of_neg (by simpa using hb), List.filter_cons_of_neg (by rw [← e, hb]; decide)]
      exact ih
def pk_ (ls : List (Nat × AV_)) (ks : List Nat) : List (Nat × AV_) := ks.filterMap (fun k => ls[k]?)
theorem ml_pick {B : Nat} {ls : List (Nat × AV_)} {l : List (Nat × Value)} (h : ml_ B ls l) : ∀ ks : List Nat, (∀ k ∈ ks, k < ls.length) → ml_ B (pk_ ls ks) (lv_pick l ks)
  | [], _ => rfl
  | k :: ks, hk => by
    have hlt := hk k List.mem_cons_self
    have ih := ml_pick h ks (fun q hq => hk q (List.mem_cons_of_mem _ hq))
    have e : ls[k]? = some ((ls[k]'hlt).1, (ls[k]'hlt).2) := List.getElem?_eq_getElem hlt
    obtain ⟨z, e1, e2⟩ := ml_get h e
    show ml_ B (List.filterMap _ (k :: ks)) (List.filterMap _ (k :: ks))
    rw [List.filterMap_cons_some e, List.filterMap_cons_some e1]
    exact ⟨z, _, rfl, e2, ih⟩
theorem so_app {B : Nat} : ∀ {a b : List AV_} {zs : List Value}, so_ B (a ++ b) zs → ∃ z1 z2, zs = z1 ++ z2 ∧ so_ B a z1 ∧ so_ B b z2
  | [], b, zs, h => ⟨[], zs, rfl, rfl, h⟩
  | x :: a, b, zs, ⟨z, zr, h1, h2, h3⟩ => by
    obtain ⟨z1, z2, e, k1, k2⟩ := so_app h3
    exact ⟨z :: z1, z2, by rw [h1, e]; rfl, ⟨z, z1, rfl, h2, k1⟩, k2⟩
theorem so_join {B : Nat} : ∀ {a b : List AV_} {z1 z2 : List Value}, so_ B a z1 → so_ B b z2 → so_ B (a ++ b) (z1 ++ z2)
  | [], b, z1, z2, h, k => by
    have h : z1 = [] := h
    subst h; exact k
  | x :: a, b, _, z2, ⟨z, zr, h1, h2, h3⟩, k => ⟨z, zr ++ z2, by rw [h1]; rfl, h2, so_join h3 k⟩
theorem so_rev {B : Nat} : ∀ {a : List AV_} {zs : List Value}, so_ B a zs → so_ B a.reverse zs.reverse
  | [], zs, h => by
    have h : zs = [] := h
    subst h; rfl
  | x :: a, _, ⟨z, zr, h1, h2, h3⟩ => by
    subst h1
    rw [List.reverse_cons, List.reverse_cons]
    exact so_join (so_rev h3) ⟨z, [], rfl, h2, rfl⟩
theorem so_len {B : Nat} : ∀ {a : List AV_} {zs : List Value}, so_ B a zs → zs.length = a.length
  | [], zs, h => by
    have h : zs = [] := h
    subst h; rfl
  | x :: a, _, ⟨z, zr, h1, h2, h3⟩ => by
    subst h1
    simp [so_len h3]
def cat_ (st : List AV_) : Nat := (st.map (fun a => if a.1 = 1 then 2 else 1)).sum
theorem so_cat {B : Nat} : ∀ {a : List AV_} {zs : List Value}, so_ B a zs → (zs.map fun v => v.category).sum = cat_ a
  | [], zs, h => by
    have h : zs = [] := h
    subst h; rfl
  | x :: a, _, ⟨z, zr, h1, h2, h3⟩ => by
    subst h1
    have ih := so_cat h3
    simp only [cat_] at ih
    simp only [cat_, List.map_cons, List.sum_cons, ih, vo_cat h2]
/-- the cell of a handle holds what the memory says -/
def ce_ (E : En_) (v : V_) (H : Heap) (a : Int) : Prop :=
  if ty_ a < 20 then ∃ w : Nat → Value, t_OB (E.1 + a.toNat) (E.2.2.1 (ty_ a)) (nf_ (ty_ a)) (E.2.2.2.1 (ty_ a)) H w ∧ ∀ k : Nat, k < nf_ (ty_ a) → vo_ E.1 (kd_ (ft_ (ty_ a) k)) (v a k) (w k)
  else ∃ w : Nat → Value, H[E.1 + a.toNat]? = some (arrV (E.2.2.2.2.1 (ty_ a - 20)) (ln_ a) w) ∧ ∀ k : Nat, k < ln_ a → vo_ E.1 (kd_ (at_ (ty_ a - 20))) (v a k) (w k)
def In_ (E : En_) (v : V_) (sz : Int) (H : Heap) : Prop := H.size = E.1 + sz.toNat ∧ 1 ≤ sz ∧ (∀ q : Nat, q ≤ E.1 → H[q]? = E.2.1[q]?) ∧ (∀ a : Int, 0 < a → a < sz → ce_ E v H a) ∧ ∀ a : Int, E.2.2.2.2.2 a → ∀ (k : Nat) (o : Int), of_ (ty_ a) (ln_ a) k = some o → v a k = a + o
def ats_ (E : En_) : List (ClassId × FieldType) := [(E.2.2.2.2.1 0, at_ 0), (E.2.2.2.2.1 1, at_ 1), (E.2.2.2.2.1 2, at_ 2), (E.2.2.2.2.1 3, at_ 3), (E.2.2.2.2.1 4, at_ 4), (E.2.2.2.2.1 5, at_ 5), (E.2.2.2.2.1 6, at_ 6), (E.2.2.2.2.1 7, at_ 7)]
def gw_ : Cond → Bool
  | .methodLinkNest _ _ _ _ => true
  | w => goodWord w
def tb_ : List Cond := lw_tbl.filter gw_
def KK_ (E : En_) (U : State) : Prop := (∀ w ∈ tb_, w.before #[] U = true) ∧ va_K (E.2.2.1, E.2.2.2.1) vwCl (ats_ E) U
theorem tb_mem {w : Cond} (h : w ∈ lw_tbl) (g : gw_ w = true) : w ∈ tb_ := List.mem_filter.mpr ⟨h, g⟩
theorem kw_move {s U : State} (hW : s.WarmedH U.vm) {A : Array Value} {w : Cond} (hw : w ∈ tb_) (h : w.before #[] s = true) : w.before A U = true := by
  have hg : gw_ w = true := (List.mem_filter.mp hw).2
  by_cases hn : goodWord w = true
  · exact word_at hW (good_of_word hn) h
  · cases w with
    | methodLinkNest a i x hh => exact va_Nw.use rfl (va_Nw.warmM hW h)
    | _ => exact absurd hg hn
theorem KK_.moved {E : En_} {s U : State} (hW : s.WarmedH U.vm) (h : KK_ E s) : KK_ E U := ⟨fun w hw => kw_move hW hw (h.1 w hw), va_K.moved hW.alike h.2⟩
theorem KK_.at {E : En_} {s : State} (h : KK_ E s) (A : Array Value) : ∀ w ∈ tb_, w.before A s = true := fun w hw => kw_move (State.WarmedH.refl s) hw (h.1 w hw)
