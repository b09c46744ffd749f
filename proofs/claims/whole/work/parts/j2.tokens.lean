/-! layer 2: a token more, in both -/
/-- the sort of a token, in both -/
def TkS_ (s t : Int) : Prop := (0 ≤ s ∧ s ≤ 16 ∧ t = 20 + s) ∨ (s = 17 ∧ t = 1) ∨ (s = 18 ∧ t = 2) ∨ (s = 19 ∧ t = 0) ∨ (s = 20 ∧ t = 3) ∨ (s = 59 ∧ t = 4) ∨ (s = 61 ∧ t = 5) ∨ (s = 43 ∧ t = 8) ∨ (s = 45 ∧ t = 9) ∨ (s = 42 ∧ t = 10) ∨ (s = 60 ∧ t = 13) ∨ (s = 47 ∧ t = 15)
/-- what is told of a token, in both -/
def TQ_ (s t a b c : Int) : Prop := TkS_ s t ∧ (s = 18 → a = b ∧ 0 ≤ b ∧ b ≤ 9999) ∧ (s = 17 → NM_ a c)
def tkC_ (v : V_) (c s y a : Int) : V_ := up_ (up_ (up_ (up_ v 6 c s) 7 c y) 8 c a) 4 4 (c + 1)
def tkR_ (w : V_) (c t y b d : Int) : V_ := up_ (up_ (up_ (up_ (up_ w 817 c t) 818 c y) 819 c b) 820 c d) 814 10 (c + 1)
section TOK2
variable {B : Int → Int} {n c y s t a b d : Int} {v w : V_} {m : Nat}
theorem tkC_4 : tkC_ v c s y a 4 4 = c + 1 := up_s ⟨rfl, rfl⟩
theorem tkC_6 : tkC_ v c s y a 6 c = s := by unfold tkC_; rw [up_n (by omega), up_n (by omega), up_n (by omega), up_s ⟨rfl, rfl⟩]
theorem tkC_7 : tkC_ v c s y a 7 c = y := by unfold tkC_; rw [up_n (by omega), up_n (by omega), up_s ⟨rfl, rfl⟩]
theorem tkC_8 : tkC_ v c s y a 8 c = a := by unfold tkC_; rw [up_n (by omega), up_s ⟨rfl, rfl⟩]
theorem tkC_o {h k : Int} (q : ¬ (6 ≤ h ∧ h ≤ 8 ∧ k = c)) (q2 : ¬ (h = 4 ∧ k = 4)) : tkC_ v c s y a h k = v h k := by unfold tkC_; rw [up_n q2, up_n (by omega), up_n (by omega), up_n (by omega)]
theorem tkR_10 : tkR_ w c t y b d 814 10 = c + 1 := up_s ⟨rfl, rfl⟩
theorem tkR_7 : tkR_ w c t y b d 817 c = t := by unfold tkR_; rw [up_n (by omega), up_n (by omega), up_n (by omega), up_n (by omega), up_s ⟨rfl, rfl⟩]
theorem tkR_8 : tkR_ w c t y b d 818 c = y := by unfold tkR_; rw [up_n (by omega), up_n (by omega), up_n (by omega), up_s ⟨rfl, rfl⟩]
theorem tkR_9 : tkR_ w c t y b d 819 c = b := by unfold tkR_; rw [up_n (by omega), up_n (by omega), up_s ⟨rfl, rfl⟩]
theorem tkR_20 : tkR_ w c t y b d 820 c = d := by unfold tkR_; rw [up_n (by omega), up_s ⟨rfl, rfl⟩]
theorem tkR_o {h k : Int} (q : ¬ (817 ≤ h ∧ h ≤ 820 ∧ k = c)) (q2 : ¬ (h = 814 ∧ k = 10)) : tkR_ w c t y b d h k = w h k := by unfold tkR_; rw [up_n q2, up_n (by omega), up_n (by omega), up_n (by omega), up_n (by omega)]
theorem add_e (h : v 4 4 = c) (c0 : 0 ≤ c ∧ c < 402) : fX9_add 4 s y a v = some (0, tkC_ v c s y a) := by
  unfold fX9_add
  simp only [Int.reduceAdd, h]
  rw [if_neg (by omega), ck_t (by omega), lt_d, up_n (by omega), h, ck_t (by omega), lt_d, up_n (by omega), up_n (by omega), h, ck_t (by omega), lt_d, up_n (by omega), up_n (by omega), up_n (by omega), h, wr_id (by omega), lt_d]
  rfl
theorem token_e (h : w 814 10 = c) (c0 : 0 ≤ c ∧ c < 403) : fX12_token 814 t y b d w = some (0, tkR_ w c t y b d) := by
  unfold fX12_token
  simp only [Int.reduceAdd, h]
  rw [ck_t (by omega), lt_d, up_n (by omega), h, ck_t (by omega), lt_d, up_n (by omega), up_n (by omega), h, ck_t (by omega), lt_d, up_n (by omega), up_n (by omega), up_n (by omega), h, ck_t (by omega), lt_d, up_n (by omega), up_n (by omega), up_n (by omega), up_n (by omega), h, wr_id (by omega), lt_d]
  rfl
/-- which sign a byte is -/
def sg_ (b : Int) : Int := if b = 59 then 4 else if b = 61 then 5 else if b = 60 then 13 else if b = 43 then 8 else if b = 45 then 9 else if b = 42 then 10 else if b = 47 then 15 else 3
theorem csign_e : fX9_isSign b v = some (if sg_ b = 3 then 0 else 1, v) := by
  unfold fX9_isSign sg_
  by_cases c1 : b = 59
  · simp [c1]
  · by_cases c2 : b = 61
    · simp [c2]
    · by_cases c3 : b = 60
      · simp [c3]
      · by_cases c4 : b = 43
        · simp [c4]
        · by_cases c5 : b = 45
          · simp [c5]
          · by_cases c6 : b = 42
            · simp [c6]
            · by_cases c7 : b = 47
              · simp [c7]
              · simp [c1, c2, c3, c4, c5, c6, c7]
theorem sg_T : (if sg_ b = 3 then 20 else b) = 20 ∧ sg_ b = 3 ∨ TkS_ b (sg_ b) ∧ ¬ sg_ b = 3 := by
  unfold sg_ TkS_
  split
  · exact Or.inr ⟨by omega, by omega⟩
  · split
    · exact Or.inr ⟨by omega, by omega⟩
    · split
      · exact Or.inr ⟨by omega, by omega⟩
      · split
        · exact Or.inr ⟨by omega, by omega⟩
        · split
          · exact Or.inr ⟨by omega, by omega⟩
          · split
            · exact Or.inr ⟨by omega, by omega⟩
            · split
              · exact Or.inr ⟨by omega, by omega⟩
              · exact Or.inl ⟨rfl, rfl⟩
theorem sg_neg (hb : -128 ≤ b ∧ b < 0) : sg_ (b + 256) = 3 ∧ sg_ b = 3 := by
  unfold sg_
  constructor
  · rw [if_neg (by omega), if_neg (by omega), if_neg (by omega), if_neg (by omega), if_neg (by omega), if_neg (by omega), if_neg (by omega)]
  · rw [if_neg (by omega), if_neg (by omega), if_neg (by omega), if_neg (by omega), if_neg (by omega), if_neg (by omega), if_neg (by omega)]
theorem rsign_e {x3 : Int} (h : w 814 10 = c) (c0 : 0 ≤ c ∧ c < 403) : fX12_sign 814 y b x3 w = some (1, tkR_ w c (sg_ b) y 0 0) := by
  have e : ∀ z, fX12_sign_73 814 y z w = some (1, tkR_ w c z y 0 0) := fun z => by rw [fX12_sign_73, token_e h c0, bd_s]
  unfold fX12_sign sg_ fX12_sign_21 fX12_sign_33 fX12_sign_43 fX12_sign_53 fX12_sign_63
  simp only [e]
  by_cases c1 : b = 59
  · simp [c1]
  · by_cases c2 : b = 61
    · simp [c2]
    · by_cases c3 : b = 60
      · simp [c3]
      · by_cases c4 : b = 43
        · simp [c4]
        · by_cases c5 : b = 45
          · simp [c5]
          · by_cases c6 : b = 42
            · simp [c6]
            · by_cases c7 : b = 47
              · simp [c7]
              · simp [c1, c2, c3, c4, c5, c6, c7]
/-- a token that begins at y, in both -/
def TK_ (B : Int → Int) (n c y : Int) (v : V_) : Prop := ∃ e s t a, y < e ∧ e ≤ n ∧ TkS_ s t ∧ s ≠ 19 ∧ fX9_endOfToken 2 n y v = some (e, v) ∧ fX9_addFrom 4 2 y e v = some (0, tkC_ v c s y a) ∧ ∀ N u, RB_ B n u → RN_ v u → u 814 10 = c → ∃ b d, TQ_ s t a b d ∧ fX12_cut_7 (N + 1) 814 y u = fX12_cut_7 N 814 e (tkR_ u c t y b d)
theorem tok_head {N : Nat} {u : V_} (hb : BB_ B n) (y0 : 0 ≤ y) (yn : y < n) (hk : ¬ Bk_ (B y)) (c0 : 0 ≤ c ∧ c ≤ 400) (hu : RB_ B n u) (hc' : u 814 10 = c) : fX12_cut_7 (N + 1) 814 y u = if le1_ (B y) = 0 then (if di1_ (B y) = 0 then fX12_cut_7 N 814 (y + 1) (tkR_ u c (sg_ (B y)) y 0 0) else fX12_cut_208 (fX12_cut_7 N) fu_ 814 y 0 0 u) else fX12_cut_85 (fX12_cut_7 N) fu_ 814 y 0 0 u := by
  have hn := hb.1
  have hy := hb.2 y y0 yn
  rw [fX12_cut_7, hc', if_neg (show ¬ 400 < c by omega), byte_e hb hu y0, bd_s]
  try dsimp only
  rw [if_pos (show y < u 814 4 by rw [hu.1]; exact yn), if_neg (show ¬ n ≤ y by omega)]
  unfold Bk_ at hk
  by_cases g : B y < 0
  · rw [if_pos g, if_neg (by omega), if_neg (by omega), if_neg (by omega), if_neg (by omega), rle_e, bd_s]
    try dsimp only
    rw [if_pos (le_n (by unfold Le_; omega)), rdi_e, bd_s]
    try dsimp only
    rw [if_pos (di_n (by unfold Di_; omega)), if_pos (le_n (by unfold Le_; omega)), if_pos (di_n (by unfold Di_; omega)), wr_id (by omega), byte_e hb hu (by omega), bd_s]
    try dsimp only
    rw [rsign_e hc' (by omega), bd_s, (sg_neg ⟨hy.1, g⟩).1, (sg_neg ⟨hy.1, g⟩).2]
    try dsimp only
    rw [wr_id (by omega), lt_d]
  · rw [if_neg g, if_neg (by omega), if_neg (by omega), if_neg (by omega), if_neg (by omega), rle_e, bd_s]
    try dsimp only
    by_cases l : le1_ (B y) = 0
    · rw [if_pos l, if_pos l, rdi_e, bd_s]
      try dsimp only
      by_cases l2 : di1_ (B y) = 0
      · rw [if_pos l2, if_pos l2, wr_id (by omega), byte_e hb hu (by omega), bd_s]
        try dsimp only
        rw [rsign_e hc' (by omega), bd_s]
        try dsimp only
        rw [wr_id (by omega), lt_d]
      · rw [if_neg l2, if_neg l2]
    · rw [if_neg l, if_neg l]
theorem LeD_ {x : Int} : Le_ x → ¬ Di_ x := fun q r => by unfold Le_ at q; unfold Di_ at r; omega
theorem li_n0 {m : Nat} (m1 : 1 ≤ m) : li_ B y m ≠ [] := fun q => by
  obtain ⟨m', rfl⟩ : ∃ m', m = m' + 1 := ⟨m - 1, by omega⟩
  rw [show li_ B y (m' + 1) = li_ B y m' ++ [B (y + m') - 96] from rfl] at q
  simp at q
theorem TS_w {k : Int} (h : 0 ≤ k ∧ k ≤ 17) : TkS_ k (if k < 17 then 20 + k else 1) := by
  unfold TkS_
  by_cases c : k < 17
  · rw [if_pos c]
    omega
  · rw [if_neg c]
    omega
theorem tok_L (hb : BB_ B n) (h : CB_ B n v) (hN : RN_ v w) (y0 : 0 ≤ y) (yn : y < n) (hk : ¬ Bk_ (B y)) (hc : v 4 4 = c) (c0 : 0 ≤ c ∧ c ≤ 400) (l : Le_ (B y)) : TK_ B n c y v := by
  have hn := hb.1
  obtain ⟨m, m1, m2, m3, m4⟩ : ∃ m : Nat, 1 ≤ m ∧ y + m ≤ n ∧ (∀ j, y ≤ j → j < y + m → Le_ (B j)) ∧ (y + m = n ∨ ¬ Le_ (B (y + m))) := run_ex (fun x => Le_ (B x)) n _ y yn rfl l
  obtain ⟨z, z1, z2⟩ := cpack_e hb h y0 m2 m3
  have E := end_e hb h y0 yn m1 m2 (fun _ => ⟨m3, m4⟩) (fun q => absurd q (LeD_ l)) (fun q => absurd l q)
  have AL := li_AL (B := B) (y := y) m m3
  obtain ⟨k, hk2⟩ := WK_ex (li_ B y m)
  have hk0 := hk2.1
  have q0 := li_n0 (B := B) (y := y) m1
  have hy : ¬ le1_ (v 2 y) = 0 := by rw [h y y0 yn]; exact le_y l
  generalize hL : li_ B y m = L at *
  by_cases c8 : m ≤ 8
  · have hT := TS_w hk0
    refine ⟨y + m, k, if k < 17 then 20 + k else 1, z, by omega, m2, hT, by omega, E, ?_, fun N u hu hNu hcu => ⟨0, pw_ 27 L, ⟨hT, fun q => absurd q (by omega), fun _ => ⟨L, AL, q0, z2 c8, rfl⟩⟩, ?_⟩⟩
    · rw [fX9_addFrom, ck_t (by omega), cle_e, bd_s]
      try dsimp only
      rw [if_neg hy, z1, bd_s]
      try dsimp only
      rw [wr_id (by omega), if_pos (by omega), z2 c8, csort_e hN AL hk2, bd_s]
      try dsimp only
      rw [fX9_addFrom_37, add_e hc (by omega), bd_s]
    · obtain ⟨z', e1, e2⟩ := rpack_e hb hu y0 m2 m3 m4 (fX12_cut_7 N)
      rw [tok_head hb y0 yn hk c0 hu hcu, if_neg (le_y l), e1, if_pos c8, fX12_cut_135, if_neg (by omega), e2 c8, hL, rsort_e _ hNu AL hk2, fX12_cut_179, token_e hcu (by omega), bd_s]
      try dsimp only
      rw [wr_id (by omega), lt_d]
  · have hT : TkS_ 20 3 := by unfold TkS_; omega
    refine ⟨y + m, 20, 3, z, by omega, m2, hT, by decide, E, ?_, fun N u hu hNu hcu => ?_⟩
    · rw [fX9_addFrom, ck_t (by omega), cle_e, bd_s]
      try dsimp only
      rw [if_neg hy, z1, bd_s]
      try dsimp only
      rw [wr_id (by omega), if_neg (by omega), fX9_addFrom_37, add_e hc (by omega), bd_s]
    · obtain ⟨z', e1, e2⟩ := rpack_e hb hu y0 m2 m3 m4 (fX12_cut_7 N)
      refine ⟨0, z', ⟨hT, fun q => absurd q (by decide), fun q => absurd q (by decide)⟩, ?_⟩
      rw [tok_head hb y0 yn hk c0 hu hcu, if_neg (le_y l), e1, if_neg c8, fX12_cut_135, if_pos (by omega), fX12_cut_179, token_e hcu (by omega), bd_s]
      try dsimp only
      rw [wr_id (by omega), lt_d]
theorem tok_D (hb : BB_ B n) (h : CB_ B n v) (y0 : 0 ≤ y) (yn : y < n) (hk : ¬ Bk_ (B y)) (hc : v 4 4 = c) (c0 : 0 ≤ c ∧ c ≤ 400) (l : Di_ (B y)) : TK_ B n c y v := by
  have hn := hb.1
  have l2 : ¬ Le_ (B y) := fun q => LeD_ q l
  obtain ⟨m, m1, m2, m3, m4⟩ : ∃ m : Nat, 1 ≤ m ∧ y + m ≤ n ∧ (∀ j, y ≤ j → j < y + m → Di_ (B j)) ∧ (y + m = n ∨ ¬ Di_ (B (y + m))) := run_ex (fun x => Di_ (B x)) n _ y yn rfl l
  obtain ⟨z, z1, z2⟩ := cnum_e hb h y0 m2 m3
  have E := end_e hb h y0 yn m1 m2 (fun q => absurd q l2) (fun _ => ⟨m3, m4⟩) (fun _ q => absurd l q)
  have hy : le1_ (v 2 y) = 0 := by rw [h y y0 yn]; exact le_n l2
  have hy2 : ¬ di1_ (v 2 y) = 0 := by rw [h y y0 yn]; exact di_y l
  have A : ∀ s, (if m ≤ 4 then (18 : Int) else 20) = s → fX9_addFrom 4 2 y (y + m) v = some (0, tkC_ v c s y z) := fun s hs => by
    rw [fX9_addFrom, ck_t (by omega), cle_e, bd_s]
    try dsimp only
    rw [if_pos hy, ck_t (by omega), cdi_e, bd_s]
    try dsimp only
    rw [if_neg hy2, wr_id (by omega), ← hs]
    by_cases c4 : m ≤ 4
    · rw [if_pos (by omega), if_pos c4, fX9_addFrom_70, z1, bd_s]
      try dsimp only
      rw [add_e hc (by omega), bd_s]
    · rw [if_neg (by omega), if_neg c4, fX9_addFrom_70, z1, bd_s]
      try dsimp only
      rw [add_e hc (by omega), bd_s]
  have R : ∀ N u, RB_ B n u → u 814 10 = c → ∃ z', (m ≤ 4 → z' = dgs_ B y m) ∧ fX12_cut_7 (N + 1) 814 y u = fX12_cut_7 N 814 (y + m) (tkR_ u c (if m ≤ 4 then 2 else 3) y z' 0) := fun N u hu hcu => by
    obtain ⟨z', e1, e2⟩ := rnum_e hb hu y0 m2 m3 m4 (fX12_cut_7 N)
    refine ⟨z', e2, ?_⟩
    rw [tok_head hb y0 yn hk c0 hu hcu, if_pos (le_n l2), if_neg (di_y l), e1, fX12_cut_261, token_e hcu (by omega), bd_s]
    try dsimp only
    rw [wr_id (by omega), lt_d]
  by_cases c4 : m ≤ 4
  · have hT : TkS_ 18 2 := by unfold TkS_; omega
    refine ⟨y + m, 18, 2, z, by omega, m2, hT, by decide, E, A _ (if_pos c4), fun N u hu _ hcu => ?_⟩
    obtain ⟨z', e1, e2⟩ := R N u hu hcu
    rw [if_pos c4] at e2
    have b1 := dv_b (B := B) (y := y) m m3
    have b2 := p10 m c4
    exact ⟨z', 0, ⟨hT, fun _ => ⟨by rw [z2 c4, e1 c4], by rw [e1 c4]; omega, by rw [e1 c4]; omega⟩, fun q => absurd q (by decide)⟩, e2⟩
  · have hT : TkS_ 20 3 := by unfold TkS_; omega
    refine ⟨y + m, 20, 3, z, by omega, m2, hT, by decide, E, A _ (if_neg c4), fun N u hu _ hcu => ?_⟩
    obtain ⟨z', e1, e2⟩ := R N u hu hcu
    rw [if_neg c4] at e2
    exact ⟨z', 0, ⟨hT, fun q => absurd q (by decide), fun q => absurd q (by decide)⟩, e2⟩
theorem tok_T (hb : BB_ B n) (h : CB_ B n v) (hN : RN_ v w) (y0 : 0 ≤ y) (yn : y < n) (hk : ¬ Bk_ (B y)) (hc : v 4 4 = c) (c0 : 0 ≤ c ∧ c ≤ 400) : TK_ B n c y v := by
  have hn := hb.1
  by_cases l : Le_ (B y)
  · exact tok_L hb h hN y0 yn hk hc c0 l
  · by_cases l2 : Di_ (B y)
    · exact tok_D hb h y0 yn hk hc c0 l2
    · have E := end_e (m := 1) hb h y0 yn (Nat.le_refl 1) (by omega) (fun q => absurd q l) (fun q => absurd q l2) (fun _ _ => rfl)
      have hy : le1_ (v 2 y) = 0 := by rw [h y y0 yn]; exact le_n l
      have hy2 : di1_ (v 2 y) = 0 := by rw [h y y0 yn]; exact di_n l2
      have R : ∀ N u, RB_ B n u → u 814 10 = c → fX12_cut_7 (N + 1) 814 y u = fX12_cut_7 N 814 (y + 1) (tkR_ u c (sg_ (B y)) y 0 0) := fun N u hu hcu => by
        rw [tok_head hb y0 yn hk c0 hu hcu, if_pos (le_n l), if_pos (di_n l2)]
      have A : fX9_addFrom 4 2 y (y + 1) v = some (0, tkC_ v c (if sg_ (B y) = 3 then 20 else B y) y 0) := by
        rw [fX9_addFrom, ck_t (by omega), cle_e, bd_s]
        try dsimp only
        rw [if_pos hy, ck_t (by omega), cdi_e, bd_s]
        try dsimp only
        rw [if_pos hy2, ck_t (by omega), csign_e, bd_s, h y y0 yn]
        try dsimp only
        by_cases c3 : sg_ (B y) = 3
        · rw [if_pos (by rw [if_pos c3]), if_pos c3, add_e hc (by omega), bd_s]
        · rw [if_neg (by rw [if_neg c3]; decide), if_neg c3, ck_t (by omega), h y y0 yn, add_e hc (by omega), bd_s]
      rcases sg_T (b := B y) with ⟨g1, g2⟩ | ⟨g1, g2⟩
      · have hT : TkS_ 20 3 := by unfold TkS_; omega
        rw [g1] at A
        refine ⟨y + 1, 20, 3, 0, by omega, by omega, hT, by decide, E, A, fun N u hu _ hcu => ⟨0, 0, ⟨hT, fun q => absurd q (by decide), fun q => absurd q (by decide)⟩, ?_⟩⟩
        rw [R N u hu hcu, g2]
      · rw [if_neg g2] at A
        have g3 : 40 ≤ B y := by
          unfold sg_ at g2
          omega
        refine ⟨y + 1, B y, sg_ (B y), 0, by omega, by omega, g1, by omega, E, A, fun N u hu _ hcu => ⟨0, 0, ⟨g1, fun q => absurd q (by omega), fun q => absurd q (by omega)⟩, R N u hu hcu⟩⟩
end TOK2
