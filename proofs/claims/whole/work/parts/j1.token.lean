/-! layer 2: one token, in both -/
/-- bytes of the text, n of them, as both hold them -/
def CB_ (B : Int → Int) (n : Int) (v : V_) : Prop := ∀ k, 0 ≤ k → k < n → v 2 k = B k
def RB_ (B : Int → Int) (n : Int) (w : V_) : Prop := w 814 4 = n ∧ ∀ k, 0 ≤ k → k < n → w 816 k = B k
def BB_ (B : Int → Int) (n : Int) : Prop := (0 ≤ n ∧ n ≤ 2000) ∧ ∀ k, 0 ≤ k → k < n → -128 ≤ B k ∧ B k < 128
section TOK
variable {B : Int → Int} {n : Int} {v w : V_} {x y b : Int} {m : Nat}
theorem byte_e (hb : BB_ B n) (h : RB_ B n w) (x0 : 0 ≤ x) : fX12_byteAt 814 x w = some (if n ≤ x then 0 else if B x < 0 then B x + 256 else B x, w) := by
  unfold fX12_byteAt
  rw [h.1]
  by_cases c : n ≤ x
  · rw [if_pos c, if_pos c]
  · have := hb.1
    rw [if_neg c, if_neg c, ck_t (by omega), show (814 : Int) + 2 = 816 from rfl, h.2 x x0 (by omega), bA255 (hb.2 x x0 (by omega))]
theorem cle_e : fX9_isLetter b v = some (le1_ b, v) := by
  unfold fX9_isLetter le1_
  by_cases c : b < 97
  · rw [if_pos c, if_neg (by omega)]
  · rw [if_neg c]
    by_cases d : 122 < b
    · rw [if_pos d, if_neg (by omega)]
    · rw [if_neg d, if_pos (by omega)]
theorem cdi_e : fX9_isDigit b v = some (di1_ b, v) := by
  unfold fX9_isDigit di1_
  by_cases c : b < 48
  · rw [if_pos c, if_neg (by omega)]
  · rw [if_neg c]
    by_cases d : 57 < b
    · rw [if_pos d, if_neg (by omega)]
    · rw [if_neg d, if_pos (by omega)]
theorem rle_e : fX12_isLetter b v = some (le1_ b, v) := by
  unfold fX12_isLetter le1_
  by_cases c : b < 97
  · rw [if_pos c, if_neg (by omega)]
  · rw [if_neg c]
    by_cases d : 122 < b
    · rw [if_pos d, if_neg (by omega)]
    · rw [if_neg d, if_pos (by omega)]
theorem rdi_e : fX12_isDigit b v = some (di1_ b, v) := by
  unfold fX12_isDigit di1_
  by_cases c : b < 48
  · rw [if_pos c, if_neg (by omega)]
  · rw [if_neg c]
    by_cases d : 57 < b
    · rw [if_pos d, if_neg (by omega)]
    · rw [if_neg d, if_pos (by omega)]
theorem cbk_e : fX9_isBlank b v = some (bk1_ b, v) := by
  unfold fX9_isBlank bk1_
  by_cases c : b = 9
  · rw [if_pos c, if_pos (by omega)]
  · rw [if_neg c]
    by_cases c2 : b = 10
    · rw [if_pos c2, if_pos (by omega)]
    · rw [if_neg c2]
      by_cases c3 : b = 13
      · rw [if_pos c3, if_pos (by omega)]
      · rw [if_neg c3]
        by_cases c4 : b = 32
        · rw [if_pos c4, if_pos (by omega)]
        · rw [if_neg c4, if_neg (by omega)]
/-- where a token ends -/
theorem end_e (hb : BB_ B n) (h : CB_ B n v) (y0 : 0 ≤ y) (yn : y < n) (m1 : 1 ≤ m) (mn : y + m ≤ n) (hL : Le_ (B y) → (∀ j, y ≤ j → j < y + m → Le_ (B j)) ∧ (y + m = n ∨ ¬ Le_ (B (y + m)))) (hD : Di_ (B y) → (∀ j, y ≤ j → j < y + m → Di_ (B j)) ∧ (y + m = n ∨ ¬ Di_ (B (y + m)))) (hS : ¬ Le_ (B y) → ¬ Di_ (B y) → m = 1) : fX9_endOfToken 2 n y v = some (y + m, v) := by
  have hn := hb.1
  unfold fX9_endOfToken
  rw [ck_t (by omega), cle_e, bd_s, ck_t (by omega)]
  try dsimp only
  rw [cdi_e, bd_s, wr_id (by omega), lt_d]
  try dsimp only
  rw [h y y0 yn]
  have LD : Le_ (B y) → ¬ Di_ (B y) := fun q r => by unfold Le_ at q; unfold Di_ at r; omega
  obtain ⟨s, e, -⟩ := lp_s (σ := Unit) (α := Option (Int × V_)) (F := fun N i _ => fX9_endOfToken_20 N 2 n (le1_ (B y)) (di1_ (B y)) i v) (K := fun _ => some (y + m, v)) (I := fun i _ => y + 1 ≤ i) (e := y + m) (fun N i s i0 im => by
    refine ⟨(), ?_, by omega⟩
    try dsimp only
    rw [fX9_endOfToken_20, if_neg (show ¬ n ≤ i by omega)]
    by_cases c : Le_ (B y)
    · rw [if_neg (le_y c), ck_t (by omega), cle_e, bd_s]
      try dsimp only
      rw [if_neg (show ¬ le1_ (v 2 i) = 0 by rw [h i (by omega) (by omega)]; exact le_y ((hL c).1 i (by omega) im)), wr_id (by omega), lt_d]
    · rw [if_pos (le_n c), fX9_endOfToken_40]
      by_cases d : Di_ (B y)
      · rw [if_neg (di_y d), ck_t (by omega), cdi_e, bd_s]
        try dsimp only
        rw [if_neg (show ¬ di1_ (v 2 i) = 0 by rw [h i (by omega) (by omega)]; exact di_y ((hD d).1 i (by omega) im)), wr_id (by omega), lt_d]
      · have := hS c d
        omega) (fun N s i0 => by
    try dsimp only
    rw [fX9_endOfToken_20]
    by_cases q : n ≤ y + m
    · rw [if_pos q]
    · rw [if_neg q]
      by_cases c : Le_ (B y)
      · rw [if_neg (le_y c), ck_t (by omega), cle_e, bd_s]
        try dsimp only
        rw [if_pos (show le1_ (v 2 (y + m)) = 0 by rw [h _ (by omega) (by omega)]; exact le_n ((hL c).2.resolve_left (by omega))), fX9_endOfToken_40, if_pos (di_n (LD c))]
      · rw [if_pos (le_n c), fX9_endOfToken_40]
        by_cases d : Di_ (B y)
        · rw [if_neg (di_y d), ck_t (by omega), cdi_e, bd_s]
          try dsimp only
          rw [if_pos (show di1_ (v 2 (y + m)) = 0 by rw [h _ (by omega) (by omega)]; exact di_n ((hD d).2.resolve_left (by omega)))]
        · rw [if_pos (di_n d)]) (m - 1) fu_ (y + 1) () (by omega) (by omega) (by unfold fu_; omega)
  exact e
/-- the letters as a number: the class, the reference -/
theorem cpack_e (hb : BB_ B n) (h : CB_ B n v) (y0 : 0 ≤ y) (mn : y + m ≤ n) (hL : ∀ j, y ≤ j → j < y + m → Le_ (B j)) : ∃ z, fX9_packedLetters 2 y (y + m) v = some (z, v) ∧ (m ≤ 8 → z = pw_ 32 (li_ B y m)) := by
  have hn := hb.1
  unfold fX9_packedLetters
  obtain ⟨s, e, -, e2⟩ := lp_s (σ := Int) (α := Option (Int × V_)) (F := fun N i s => fX9_packedLetters_5 N 2 (y + m) s i v) (K := fun s => some (s, v)) (I := fun i s => y ≤ i ∧ (i - y ≤ 8 → s = pw_ 32 (li_ B y (i - y).toNat))) (e := y + m) (fun N i s hI im => by
    obtain ⟨i0, hs⟩ := hI
    try dsimp only
    rw [fX9_packedLetters_5, if_neg (by omega), ck_t (by omega), fX9_withLetter, bd_s, wr_id (x := i + 1) (by omega), lt_d]
    refine ⟨_, rfl, by omega, fun q => ?_⟩
    try dsimp only
    have hl := hL i i0 im
    unfold Le_ at hl
    rw [hs (by omega), h i (by omega) (by omega), wr_id (x := B i - 97) (by omega), wr_id (by omega)]
    have hb2 := (li_b (B := B) (y := y) (i - y).toNat fun j j0 j1 => hL j j0 (by omega)).1
    have hp := (p32 (i - y).toNat (by omega)).1
    rw [wl_id (x := pw_ 32 (li_ B y (i - y).toNat) * 32) (by omega), wl_id (by omega), show (i + 1 - y).toNat = (i - y).toNat + 1 by omega, show li_ B y ((i - y).toNat + 1) = li_ B y (i - y).toNat ++ [B (y + ((i - y).toNat : Nat)) - 96] from rfl, pw_ap, show y + (((i - y).toNat : Nat) : Int) = i by omega]
    omega) (fun N s _ => by rw [fX9_packedLetters_5, if_pos (by omega)]) m fu_ y 0 ⟨by omega, fun _ => by rw [show (y - y).toNat = 0 by omega]; rfl⟩ (by omega) (by unfold fu_; omega)
  refine ⟨s, e, fun q => ?_⟩
  rw [e2 (by omega), show (y + m - y).toNat = m by omega]
theorem cnum_e (hb : BB_ B n) (h : CB_ B n v) (y0 : 0 ≤ y) (mn : y + m ≤ n) (hL : ∀ j, y ≤ j → j < y + m → Di_ (B j)) : ∃ z, fX9_number 2 y (y + m) v = some (z, v) ∧ (m ≤ 4 → z = dgs_ B y m) := by
  have hn := hb.1
  unfold fX9_number
  obtain ⟨s, e, -, e2⟩ := lp_s (σ := Int) (α := Option (Int × V_)) (F := fun N i s => fX9_number_5 N 2 (y + m) s i v) (K := fun s => some (s, v)) (I := fun i s => y ≤ i ∧ (i - y ≤ 4 → s = dgs_ B y (i - y).toNat)) (e := y + m) (fun N i s hI im => by
    obtain ⟨i0, hs⟩ := hI
    try dsimp only
    rw [fX9_number_5, if_neg (by omega), ck_t (by omega), lt_d, wr_id (x := i + 1) (by omega), lt_d]
    refine ⟨_, rfl, by omega, fun q => ?_⟩
    have hl := hL i i0 im
    unfold Di_ at hl
    rw [hs (by omega), h i (by omega) (by omega), wr_id (x := B i - 48) (by omega)]
    have hb2 := dv_b (B := B) (y := y) (i - y).toNat fun j j0 j1 => hL j j0 (by omega)
    have hp := p10 (i - y).toNat (by omega)
    rw [wl_id (x := dgs_ B y (i - y).toNat * 10) (by omega), wl_id (by omega), show (i + 1 - y).toNat = (i - y).toNat + 1 by omega, show dgs_ B y ((i - y).toNat + 1) = dgs_ B y (i - y).toNat * 10 + (B (y + ((i - y).toNat : Nat)) - 48) from rfl, show y + (((i - y).toNat : Nat) : Int) = i by omega]) (fun N s _ => by rw [fX9_number_5, if_pos (by omega)]) m fu_ y 0 ⟨by omega, fun _ => by rw [show (y - y).toNat = 0 by omega]; rfl⟩ (by omega) (by unfold fu_; omega)
  refine ⟨s, e, fun q => ?_⟩
  rw [e2 (by omega), show (y + m - y).toNat = m by omega]
theorem u_le (hb : BB_ B n) (x0 : 0 ≤ x) (xn : x < n) : (if n ≤ x then 0 else if B x < 0 then B x + 256 else B x) = if B x < 0 then B x + 256 else B x := if_neg (by omega)
theorem rpack_e (hb : BB_ B n) (h : RB_ B n w) (y0 : 0 ≤ y) (mn : y + m ≤ n) (hL : ∀ j, y ≤ j → j < y + m → Le_ (B j)) (hE : y + m = n ∨ ¬ Le_ (B (y + m))) (k7 : Int → Int → V_ → Option (Int × V_)) : ∃ z, fX12_cut_85 k7 fu_ 814 y 0 0 w = fX12_cut_135 k7 814 y m z (if m ≤ 8 then 1 else 3) w ∧ (m ≤ 8 → z = pw_ 27 (li_ B y m)) := by
  have hn := hb.1
  obtain ⟨s, e, -, e2⟩ := lp_s (σ := Int) (α := Option (Int × V_)) (F := fun N i s => fX12_cut_85 k7 N 814 y i s w) (K := fun s => fX12_cut_135 k7 814 y m s (if m ≤ 8 then 1 else 3) w) (I := fun i s => 0 ≤ i ∧ (i ≤ 8 → s = pw_ 27 (li_ B y i.toNat))) (e := (m : Int)) (fun N i s hI im => by
    obtain ⟨i0, hs⟩ := hI
    try dsimp only
    have hl := hL (y + i) (by omega) (by omega)
    have hl2 := hl
    unfold Le_ at hl2
    have eb : (if n ≤ y + i then 0 else if B (y + i) < 0 then B (y + i) + 256 else B (y + i)) = B (y + i) := by rw [if_neg (by omega), if_neg (by omega)]
    rw [fX12_cut_85, wr_id (by omega), byte_e hb h (by omega), eb, bd_s]
    try dsimp only
    rw [rle_e, bd_s]
    try dsimp only
    rw [if_neg (le_y hl)]
    by_cases c : 8 ≤ i
    · refine ⟨s, ?_, by omega, fun q => by omega⟩
      rw [if_pos c, wr_id (by omega), lt_d]
    · rw [if_neg c, byte_e hb h (by omega), eb, bd_s]
      try dsimp only
      rw [fX12_appends, if_neg (by omega), bd_s]
      try dsimp only
      rw [wr_id (x := i + 1) (by omega), lt_d]
      refine ⟨_, rfl, by omega, fun q => ?_⟩
      rw [hs (by omega), wr_id (x := B (y + i) - 97) (by omega), wr_id (by omega)]
      have hb2 := (li_b (B := B) (y := y) i.toNat fun j j0 j1 => hL j j0 (by omega)).2
      have hp := (p32 i.toNat (by omega)).2
      rw [wl_id (x := 27 * pw_ 27 (li_ B y i.toNat)) (by omega), wl_id (by omega), show (i + 1).toNat = i.toNat + 1 by omega, show li_ B y (i.toNat + 1) = li_ B y i.toNat ++ [B (y + (i.toNat : Nat)) - 96] from rfl, pw_ap, show y + ((i.toNat : Nat) : Int) = y + i by omega]
      omega) (fun N s _ => by
    try dsimp only
    rw [fX12_cut_85, wr_id (by omega), byte_e hb h (by omega), bd_s]
    try dsimp only
    rw [rle_e, bd_s]
    try dsimp only
    rw [if_pos]
    · by_cases c : (m : Int) ≤ 8
      · rw [if_pos c, if_pos (by omega)]
      · rw [if_neg c, if_neg (by omega)]
    · refine le_n ?_
      rcases hE with q | q
      · rw [if_pos (by omega)]
        unfold Le_
        omega
      · by_cases c : n ≤ y + m
        · rw [if_pos c]
          unfold Le_
          omega
        · have := hb.2 (y + m) (by omega) (by omega)
          rw [if_neg c]
          unfold Le_ at q ⊢
          split <;> omega) m fu_ 0 0 ⟨by omega, fun _ => rfl⟩ (by omega) (by unfold fu_; omega)
  exact ⟨s, e, fun q => by rw [e2 (by omega)]; rfl⟩
theorem rnum_e (hb : BB_ B n) (h : RB_ B n w) (y0 : 0 ≤ y) (mn : y + m ≤ n) (hL : ∀ j, y ≤ j → j < y + m → Di_ (B j)) (hE : y + m = n ∨ ¬ Di_ (B (y + m))) (k7 : Int → Int → V_ → Option (Int × V_)) : ∃ z, fX12_cut_208 k7 fu_ 814 y 0 0 w = fX12_cut_261 k7 814 y m z 814 (if m ≤ 4 then 2 else 3) w ∧ (m ≤ 4 → z = dgs_ B y m) := by
  have hn := hb.1
  obtain ⟨s, e, -, e2⟩ := lp_s (σ := Int) (α := Option (Int × V_)) (F := fun N i s => fX12_cut_208 k7 N 814 y i s w) (K := fun s => fX12_cut_261 k7 814 y m s 814 (if m ≤ 4 then 2 else 3) w) (I := fun i s => 0 ≤ i ∧ (i ≤ 4 → s = dgs_ B y i.toNat)) (e := (m : Int)) (fun N i s hI im => by
    obtain ⟨i0, hs⟩ := hI
    try dsimp only
    have hl := hL (y + i) (by omega) (by omega)
    have hl2 := hl
    unfold Di_ at hl2
    have eb : (if n ≤ y + i then 0 else if B (y + i) < 0 then B (y + i) + 256 else B (y + i)) = B (y + i) := by rw [if_neg (by omega), if_neg (by omega)]
    rw [fX12_cut_208, wr_id (by omega), byte_e hb h (by omega), eb, bd_s]
    try dsimp only
    rw [rdi_e, bd_s]
    try dsimp only
    rw [if_neg (di_y hl)]
    by_cases c : 4 ≤ i
    · refine ⟨s, ?_, by omega, fun q => by omega⟩
      rw [if_pos c, wr_id (by omega), lt_d]
    · rw [if_neg c, byte_e hb h (by omega), eb, bd_s]
      try dsimp only
      rw [lt_d, wr_id (x := i + 1) (by omega), lt_d]
      refine ⟨_, rfl, by omega, fun q => ?_⟩
      have hb2 := dv_b (B := B) (y := y) i.toNat fun j j0 j1 => hL j j0 (by omega)
      have hp := p10 i.toNat (by omega)
      rw [hs (by omega), wr_id (x := 10 * dgs_ B y i.toNat) (by omega), wr_id (x := 10 * dgs_ B y i.toNat + B (y + i)) (by omega), wr_id (by omega), show (i + 1).toNat = i.toNat + 1 by omega, show dgs_ B y (i.toNat + 1) = dgs_ B y i.toNat * 10 + (B (y + (i.toNat : Nat)) - 48) from rfl, show y + ((i.toNat : Nat) : Int) = y + i by omega]
      omega) (fun N s _ => by
    try dsimp only
    rw [fX12_cut_208, wr_id (by omega), byte_e hb h (by omega), bd_s]
    try dsimp only
    rw [rdi_e, bd_s]
    try dsimp only
    rw [if_pos]
    · by_cases c : (m : Int) ≤ 4
      · rw [if_pos c, if_pos (by omega)]
      · rw [if_neg c, if_neg (by omega)]
    · refine di_n ?_
      rcases hE with q | q
      · rw [if_pos (by omega)]
        unfold Di_
        omega
      · by_cases c : n ≤ y + m
        · rw [if_pos c]
          unfold Di_
          omega
        · have := hb.2 (y + m) (by omega) (by omega)
          rw [if_neg c]
          unfold Di_ at q ⊢
          split <;> omega) m fu_ 0 0 ⟨by omega, fun _ => rfl⟩ (by omega) (by unfold fu_; omega)
  exact ⟨s, e, fun q => by rw [e2 (by omega)]; rfl⟩
end TOK
