/-! the class, as in the proof of whole (wip/p32/math/ext.py) -/
def CI (f : Nat → Int32) (B O : Nat) : Prop := B ≤ 24 ∧ O ≤ 10 ∧ f 6 = Int32.ofNat B ∧ f 7 = Int32.ofNat O
theorem CI.hB {f : Nat → Int32} {B O : Nat} (c : CI f B O) : B ≤ 24 := c.1
theorem CI.hO {f : Nat → Int32} {B O : Nat} (c : CI f B O) : O ≤ 10 := c.2.1
theorem CI.f6 {f : Nat → Int32} {B O : Nat} (c : CI f B O) : f 6 = Int32.ofNat B := c.2.2.1
theorem CI.f7 {f : Nat → Int32} {B O : Nat} (c : CI f B O) : f 7 = Int32.ofNat O := c.2.2.2
theorem n_suc (i : Nat) : Int32.ofNat i + 1 = Int32.ofNat (i + 1) := n_add i 1
theorem n_l4 {a : Nat} (ha : a < 2147483648) : ((4 : Int32) ≤ Int32.ofNat a) ↔ 4 ≤ a := n_le (a := 4) (by omega) ha
theorem n_l5 {a : Nat} (ha : a < 2147483648) : ((5 : Int32) ≤ Int32.ofNat a) ↔ 5 ≤ a := n_le (a := 5) (by omega) ha
theorem bw_loop {k : Nat} {f : Nat → Int32} {w B : Nat} {v : Int32} (hw : w < 11) (hB : B ≤ 24) : ∀ n i, i ≤ B → B - i < n → f_X5_blocksWith_b13 k f (Int32.ofNat w) v n (Int32.ofNat B) (zbs (fun b => decide (f (8 + b * 11 + w) = v)) i) (Int32.ofNat i) = some (zbs (fun b => decide (f (8 + b * 11 + w) = v)) B) := by
  intro n
  induction n with
  | zero => intro i _ h; omega
  | succ n ih =>
    intro i hi hn
    rw [f_X5_blocksWith_b13]
    by_cases h : i < B
    · rw [if_neg (fun q => absurd ((n_le (by omega) (by omega)).mp q) (by omega)), s_blk (by omega) hw]
      simp only [zb1_some, zl_e, n_suc]
      have := ih (i + 1) (by omega) (by omega)
      rw [zbs] at this
      by_cases hq : f (8 + i * 11 + w) = v
      · rw [if_pos hq]
        rw [if_pos (by simpa using hq)] at this
        exact this
      · rw [if_neg hq]
        rw [if_neg (by simpa using hq)] at this
        exact this
    · have : i = B := by omega
      subst this
      rw [if_pos ((n_le (by omega) (by omega)).mpr (Nat.le_refl _))]
theorem s_bw {k : Nat} {f : Nat → Int32} {B O w : Nat} {v : Int32} (c : CI f B O) (hk : 25 ≤ k) (hw : w < 11) : f_X5_blocksWith k f (Int32.ofNat w) v = some (zbs (fun b => decide (f (8 + b * 11 + w) = v)) B) := by
  rw [f_X5_blocksWith, s_cell6, zb1_some, c.f6]
  exact bw_loop (i := 0) hw c.hB k (by omega) (by have := c.hB; omega)
theorem s_bw5 {k : Nat} {f : Nat → Int32} {B O : Nat} {v : Int32} (c : CI f B O) (hk : 25 ≤ k) : f_X5_blocksWith k f 5 v = some (zbs (fun b => decide (f (8 + b * 11 + 5) = v)) B) := s_bw (w := 5) c hk (by decide)
theorem s_bw6 {k : Nat} {f : Nat → Int32} {B O : Nat} {v : Int32} (c : CI f B O) (hk : 25 ≤ k) : f_X5_blocksWith k f 6 v = some (zbs (fun b => decide (f (8 + b * 11 + 6) = v)) B) := s_bw (w := 6) c hk (by decide)
theorem s_bw7 {k : Nat} {f : Nat → Int32} {B O : Nat} {v : Int32} (c : CI f B O) (hk : 25 ≤ k) : f_X5_blocksWith k f 7 v = some (zbs (fun b => decide (f (8 + b * 11 + 7) = v)) B) := s_bw (w := 7) c hk (by decide)
theorem s_bw9 {k : Nat} {f : Nat → Int32} {B O : Nat} {v : Int32} (c : CI f B O) (hk : 25 ≤ k) : f_X5_blocksWith k f 9 v = some (zbs (fun b => decide (f (8 + b * 11 + 9) = v)) B) := s_bw (w := 9) c hk (by decide)
theorem s_bw10 {k : Nat} {f : Nat → Int32} {B O : Nat} {v : Int32} (c : CI f B O) (hk : 25 ≤ k) : f_X5_blocksWith k f 10 v = some (zbs (fun b => decide (f (8 + b * 11 + 10) = v)) B) := s_bw (w := 10) c hk (by decide)
theorem wof_loop {k : Nat} {f : Nat → Int32} {P : Nat → Bool} {B : Nat} (hB : B ≤ 24) : ∀ n i, i ≤ B → B - i < n → f_X1_weightOf_b15 k f (zbs P B) n (Int32.ofNat B) (zsum (fun b => f (8 + b * 11 + 4)) P i) (Int32.ofNat i) = some (zsum (fun b => f (8 + b * 11 + 4)) P B) := by
  intro n
  induction n with
  | zero => intro i _ h; omega
  | succ n ih =>
    intro i hi hn
    rw [f_X1_weightOf_b15]
    by_cases h : i < B
    · rw [if_neg (fun q => absurd ((n_le (by omega) (by omega)).mp q) (by omega))]
      simp only [zl_e]
      rw [b_test (by omega), b_zbs B (by omega) i (by omega)]
      have := ih (i + 1) (by omega) (by omega)
      rw [zsum] at this
      by_cases hq : P i = true
      · rw [if_pos hq] at this
        rw [if_pos (by simp [h, hq]), s_blk4 (by omega)]
        simp only [zb1_some, n_suc]
        exact this
      · rw [if_neg hq] at this
        rw [if_neg (by simp [h, hq])]
        simp only [n_suc]
        exact this
    · have : i = B := by omega
      subst this
      rw [if_pos ((n_le (by omega) (by omega)).mpr (Nat.le_refl _))]
theorem s_wof {k : Nat} {f : Nat → Int32} {P : Nat → Bool} {B O : Nat} (c : CI f B O) (hk : 25 ≤ k) : f_X1_weightOf k f (zbs P B) = some (zsum (fun b => f (8 + b * 11 + 4)) P B) := by
  rw [f_X1_weightOf, s_cell6, zb1_some, c.f6]
  exact wof_loop (i := 0) c.hB k (by omega) (by have := c.hB; omega)
theorem s_uncut {k : Nat} {f : Nat → Int32} {B O : Nat} (c : CI f B O) (hk : 25 ≤ k) : f_X1_uncutBlocks k f = some (zbs (fun b => !decide (f (8 + b * 11 + 5) = 4)) B) := by
  rw [f_X1_uncutBlocks, s_cell6]
  simp only [zb1_some, zl_e]
  rw [c.f6, b_all B c.hB, s_bw5 c hk]
  simp only [zb1_some, zl_e]
  rw [b_andnot (by have := c.hB; omega)]
  congr 1
theorem s_quarried {k : Nat} {f : Nat → Int32} {B O : Nat} (c : CI f B O) (hk : 25 ≤ k) : f_X1_quarriedWeight k f = some (zsum (fun b => f (8 + b * 11 + 4)) (fun b => decide (f (8 + b * 11 + 10) = -6)) B) := by
  rw [f_X1_quarriedWeight, s_bw10 c hk, zb1_some, s_wof c hk, zb1_some]
theorem s_uncutW {k : Nat} {f : Nat → Int32} {B O : Nat} (c : CI f B O) (hk : 25 ≤ k) : f_X1_uncutWeight k f = some (zsum (fun b => f (8 + b * 11 + 4)) (fun b => !decide (f (8 + b * 11 + 5) = 4)) B) := by
  rw [f_X1_uncutWeight, s_uncut c hk, zb1_some, s_wof c hk, zb1_some]
theorem s_lost {k : Nat} {f : Nat → Int32} {B O : Nat} (c : CI f B O) (hk : 25 ≤ k) : f_X1_lostWeight k f = some (zsum (fun b => f (8 + b * 11 + 4)) (fun b => decide (f (8 + b * 11 + 10) = -6)) B - zsum (fun b => f (8 + b * 11 + 4)) (fun b => !decide (f (8 + b * 11 + 5) = 4)) B) := by
  rw [f_X1_lostWeight, s_quarried c hk, zb1_some, s_uncutW c hk, zb1_some, zl_e]
theorem inv_loop {k : Nat} {f : Nat → Int32} {O : Nat} (hO : O ≤ 10) : ∀ n i, i ≤ O → O - i < n → f_X1_allInvoices_b14 k f n (Int32.ofNat O) (zsum (fun b => f (272 + b * 6 + 5)) (fun b => decide (f (272 + b * 6 + 3) = 2)) i) (Int32.ofNat i) = some (zsum (fun b => f (272 + b * 6 + 5)) (fun b => decide (f (272 + b * 6 + 3) = 2)) O) := by
  intro n
  induction n with
  | zero => intro i _ h; omega
  | succ n ih =>
    intro i hi hn
    rw [f_X1_allInvoices_b14]
    by_cases h : i < O
    · rw [if_neg (fun q => absurd ((n_le (by omega) (by omega)).mp q) (by omega)), s_ord3 (by omega)]
      simp only [zb1_some, zl_e, n_suc]
      have := ih (i + 1) (by omega) (by omega)
      rw [zsum] at this
      by_cases hq : f (272 + i * 6 + 3) = 2
      · rw [if_pos (by simpa using hq)] at this
        rw [if_pos hq, s_ord5 (by omega)]
        exact this
      · rw [if_neg (by simpa using hq)] at this
        rw [if_neg hq]
        exact this
    · have : i = O := by omega
      subst this
      rw [if_pos ((n_le (by omega) (by omega)).mpr (Nat.le_refl _))]
theorem s_invs {k : Nat} {f : Nat → Int32} {B O : Nat} (c : CI f B O) (hk : 25 ≤ k) : f_X1_allInvoices k f = some (zsum (fun b => f (272 + b * 6 + 5)) (fun b => decide (f (272 + b * 6 + 3) = 2)) O) := by
  rw [f_X1_allInvoices, s_cell7, zb1_some, c.f7]
  exact inv_loop (i := 0) c.hO k (by omega) (by have := c.hO; omega)
theorem s_roof {k : Nat} {f : Nat → Int32} {B O : Nat} (c : CI f B O) (hk : 25 ≤ k) : f_X1_roofHasRoom k f = some (if zcnt (fun b => decide (f (8 + b * 11 + 5) = 1)) B < 4 then 1 else 0) := by
  have hB := c.hB
  have := zcnt_le (P := fun b => decide (f (8 + b * 11 + 5) = 1)) B
  rw [f_X1_roofHasRoom, s_bw5 c hk, zb1_some, s_pop hB, zb1_some]
  by_cases h : zcnt (fun b => decide (f (8 + b * 11 + 5) = 1)) B < 4
  · rw [if_pos h, if_neg (fun q => absurd ((n_l4 (by omega)).mp q) (by omega))]
  · rw [if_neg h, if_pos ((n_l4 (by omega)).mpr (by omega))]
theorem s_hand {k : Nat} {f : Nat → Int32} {b : Nat} (hb : b < 24) : f_X1_isAtHand k f (Int32.ofNat b) = some (if f (8 + b * 11 + 5) = 0 ∨ f (8 + b * 11 + 5) = 1 then 1 else 0) := by
  rw [f_X1_isAtHand, s_blk5 hb, zb1_some]
  by_cases h : f (8 + b * 11 + 5) = 0
  · simp [h]
  · by_cases h1 : f (8 + b * 11 + 5) = 1 <;> simp [h, h1]
theorem s_sawn {k : Nat} {f : Nat → Int32} {b : Nat} (hb : b < 24) : f_X1_mayBeSawn k f (Int32.ofNat b) = some (if f 4 = 0 ∧ (f (8 + b * 11 + 5) = 0 ∨ f (8 + b * 11 + 5) = 1) ∧ f (8 + b * 11 + 8) = -6 then 1 else 0) := by
  rw [f_X1_mayBeSawn, s_cell4, zb1_some, s_hand hb]
  by_cases h : f 4 = 0
  · by_cases h1 : f (8 + b * 11 + 5) = 0 ∨ f (8 + b * 11 + 5) = 1
    · by_cases h2 : f (8 + b * 11 + 8) = -6 <;> simp [h, h1, h2, s_blk8 hb, zb1_some]
    · simp [h, h1, zb1_some]
  · simp [h]
theorem s_over {k : Nat} {f : Nat → Int32} {x : Int32} : f_X1_isWithinOver k f x = some (if ¬ x < 0 ∧ ¬ f 3 < x then 1 else 0) := by
  rw [f_X1_isWithinOver, s_cell3, zb1_some]
  by_cases h : x < 0
  · simp [h]
  · by_cases h1 : f 3 < x <;> simp [h, h1]
def zmx (a b : Int32) : Int32 := if a < b then b else a
def zmn (a b : Int32) : Int32 := if b < a then b else a
theorem s_great {k : Nat} {a b c : Int32} : f_X7_greatestOf k a b c = some (zmx a (zmx b c)) := rfl
theorem s_least {k : Nat} {a b c : Int32} : f_X7_leastOf k a b c = some (zmn a (zmn b c)) := rfl
theorem s_middle {k : Nat} {a b c : Int32} : f_X7_middleOf k a b c = some (a + b + c - zmx a (zmx b c) - zmn a (zmn b c)) := rfl
def zsur (v o1 o2 o3 a b c : Int32) : Int32 :=
  if (¬ zmx a (zmx b c) - o1 < 0 ∧ ¬ v < zmx a (zmx b c) - o1) ∧ (¬ (a + b + c - zmx a (zmx b c) - zmn a (zmn b c)) - o2 < 0 ∧ ¬ v < (a + b + c - zmx a (zmx b c) - zmn a (zmn b c)) - o2) ∧ (¬ zmn a (zmn b c) - o3 < 0 ∧ ¬ v < zmn a (zmn b c) - o3)
  then zmx a (zmx b c) - o1 + ((a + b + c - zmx a (zmx b c) - zmn a (zmn b c)) - o2) + (zmn a (zmn b c) - o3) else -6
theorem s_surplus {k : Nat} {f : Nat → Int32} {o : Nat} {a b c : Int32} (ho : o < 10) : f_X1_surplus k f (Int32.ofNat o) a b c = some (zsur (f 3) (f (272 + o * 6 + 0)) (f (272 + o * 6 + 1)) (f (272 + o * 6 + 2)) a b c) := by
  rw [f_X1_surplus, s_great, s_middle, s_least, s_ord0 ho, s_ord1 ho, s_ord2 ho]
  simp only [zb1_some, zl_e, s_over]
  unfold zsur
  generalize zmx a (zmx b c) - f (272 + o * 6 + 0) = x
  generalize a + b + c - zmx a (zmx b c) - zmn a (zmn b c) - f (272 + o * 6 + 1) = y
  generalize zmn a (zmn b c) - f (272 + o * 6 + 2) = z
  have n10 : ¬ (1 : Int32) = 0 := by decide
  by_cases h1 : ¬ x < 0 ∧ ¬ f 3 < x
  · rw [if_pos h1, if_neg n10]
    by_cases h2 : ¬ y < 0 ∧ ¬ f 3 < y
    · rw [if_pos h2, if_neg n10]
      by_cases h3 : ¬ z < 0 ∧ ¬ f 3 < z
      · rw [if_pos h3, if_neg n10, if_neg n10, if_pos ⟨h1, h2, h3⟩]
      · rw [if_neg h3, if_pos rfl, if_pos trivial, if_neg (fun q => h3 q.2.2)]
    · rw [if_neg h2, if_pos rfl, if_pos trivial, if_neg (fun q => h2 q.2.1)]
  · rw [if_neg h1, if_pos rfl, if_pos trivial, if_neg (fun q => h1 q.1)]
def zgiv (f : Nat → Int32) (o b : Nat) : Int32 :=
  if f (272 + o * 6 + 3) = 0 ∧ ¬ f (8 + b * 11 + 5) = 3 ∧ ¬ f (8 + b * 11 + 5) = 4 ∧ f (8 + b * 11 + 8) = -6 ∧ f (8 + b * 11 + 7) = 0 then
    zsur (f 3) (f (272 + o * 6 + 0)) (f (272 + o * 6 + 1)) (f (272 + o * 6 + 2)) (f (8 + b * 11 + 0)) (f (8 + b * 11 + 1)) (f (8 + b * 11 + 2)) else -6
theorem s_giv {k : Nat} {f : Nat → Int32} {o b : Nat} (ho : o < 10) (hb : b < 24) : f_X1_surplusToGive k f (Int32.ofNat o) (Int32.ofNat b) = some (zgiv f o b) := by
  rw [f_X1_surplusToGive, s_blk5 hb, s_ord3 ho, s_blk8 hb, s_blk7 hb, s_blk0 hb, s_blk1 hb, s_blk2 hb]
  simp only [zb1_some, s_surplus ho]
  unfold zgiv
  by_cases h1 : f (272 + o * 6 + 3) = 0
  · by_cases h2 : f (8 + b * 11 + 5) = 3
    · simp [h1, h2]
    · by_cases h3 : f (8 + b * 11 + 5) = 4
      · simp [h1, h3]
      · by_cases h4 : f (8 + b * 11 + 8) = -6
        · by_cases h5 : f (8 + b * 11 + 7) = 0
          · rw [if_pos h1, if_neg h2, if_neg h3, if_pos h4, if_pos h5, if_pos ⟨h1, h2, h3, h4, h5⟩]
          · rw [if_pos h1, if_neg h2, if_neg h3, if_pos h4, if_neg h5, if_neg (fun q => h5 q.2.2.2.2)]
        · rw [if_pos h1, if_neg h2, if_neg h3, if_neg h4, if_neg (fun q => h4 q.2.2.2.1)]
  · rw [if_neg h1, if_neg (fun q => h1 q.1)]
theorem btg_loop {k : Nat} {f : Nat → Int32} {o B : Nat} (ho : o < 10) (hB : B ≤ 24) : ∀ n i, i ≤ B → B - i < n → f_X1_blocksToGive_b15 k f (Int32.ofNat o) n (Int32.ofNat B) (zbs (fun b => !decide (zgiv f o b = -6)) i) (Int32.ofNat i) = some (zbs (fun b => !decide (zgiv f o b = -6)) B) := by
  intro n
  induction n with
  | zero => intro i _ h; omega
  | succ n ih =>
    intro i hi hn
    rw [f_X1_blocksToGive_b15]
    by_cases h : i < B
    · rw [if_neg (fun q => absurd ((n_le (by omega) (by omega)).mp q) (by omega)), s_giv ho (by omega)]
      simp only [zb1_some, zl_e, n_suc]
      have := ih (i + 1) (by omega) (by omega)
      rw [zbs] at this
      by_cases hq : zgiv f o i = -6
      · rw [if_pos hq]
        rw [if_neg (by simpa using hq)] at this
        exact this
      · rw [if_neg hq]
        rw [if_pos (by simpa using hq)] at this
        exact this
    · have : i = B := by omega
      subst this
      rw [if_pos ((n_le (by omega) (by omega)).mpr (Nat.le_refl _))]
theorem s_btg {k : Nat} {f : Nat → Int32} {B O o : Nat} (c : CI f B O) (hk : 25 ≤ k) (ho : o < 10) : f_X1_blocksToGive k f (Int32.ofNat o) = some (zbs (fun b => !decide (zgiv f o b = -6)) B) := by
  rw [f_X1_blocksToGive, s_cell6, zb1_some, c.f6]
  exact btg_loop (i := 0) ho c.hB k (by omega) (by have := c.hB; omega)
