/-! WHAT IS ASKED: of, count, ofOrder -/
theorem o_of {k : Nat} {f : Nat → Int32} {B O b w : Nat} (c : CI f B O) (hb : b < B) (hw : w < 11) : f_X7_of k f (Int32.ofNat b) (Int32.ofNat w) = some (f (8 + b * 11 + w)) := by
  have hB := c.hB
  rw [f_X7_of, h_blk1 c k hb, zb1_some, if_neg n10, if_neg (n_lt0 (by omega)), if_pos (show Int32.ofNat w < 11 from (n_lt (b := 11) (by omega) (by omega)).mpr hw), s_blk (by omega) hw, zb1_some]
theorem o_of_no {k : Nat} {f : Nat → Int32} {B O : Nat} (c : CI f B O) (p2 : Int32) : f_X7_of k f (Int32.ofNat B) p2 = some (-1) := by
  have hB := c.hB
  have e : f_X5_hasBlock k f (Int32.ofNat B) = some 0 := by
    rcases h_blk c k (Int32.ofNat B) with ⟨b, b1, b2, _⟩ | ⟨_, e⟩
    · have := (n_inj (by omega) (by omega)).mp b2
      omega
    · exact e
  rw [f_X7_of, e]
  rfl
theorem o_of0 {k : Nat} {f : Nat → Int32} {B O b : Nat} (c : CI f B O) (hb : b < B) : f_X7_of k f (Int32.ofNat b) 0 = some (f (8 + b * 11 + 0)) := o_of (w := 0) c hb (by decide)
theorem o_of1 {k : Nat} {f : Nat → Int32} {B O b : Nat} (c : CI f B O) (hb : b < B) : f_X7_of k f (Int32.ofNat b) 1 = some (f (8 + b * 11 + 1)) := o_of (w := 1) c hb (by decide)
theorem o_of2 {k : Nat} {f : Nat → Int32} {B O b : Nat} (c : CI f B O) (hb : b < B) : f_X7_of k f (Int32.ofNat b) 2 = some (f (8 + b * 11 + 2)) := o_of (w := 2) c hb (by decide)
theorem o_of3 {k : Nat} {f : Nat → Int32} {B O b : Nat} (c : CI f B O) (hb : b < B) : f_X7_of k f (Int32.ofNat b) 3 = some (f (8 + b * 11 + 3)) := o_of (w := 3) c hb (by decide)
theorem o_of4 {k : Nat} {f : Nat → Int32} {B O b : Nat} (c : CI f B O) (hb : b < B) : f_X7_of k f (Int32.ofNat b) 4 = some (f (8 + b * 11 + 4)) := o_of (w := 4) c hb (by decide)
theorem o_of5 {k : Nat} {f : Nat → Int32} {B O b : Nat} (c : CI f B O) (hb : b < B) : f_X7_of k f (Int32.ofNat b) 5 = some (f (8 + b * 11 + 5)) := o_of (w := 5) c hb (by decide)
theorem o_of6 {k : Nat} {f : Nat → Int32} {B O b : Nat} (c : CI f B O) (hb : b < B) : f_X7_of k f (Int32.ofNat b) 6 = some (f (8 + b * 11 + 6)) := o_of (w := 6) c hb (by decide)
theorem o_of7 {k : Nat} {f : Nat → Int32} {B O b : Nat} (c : CI f B O) (hb : b < B) : f_X7_of k f (Int32.ofNat b) 7 = some (f (8 + b * 11 + 7)) := o_of (w := 7) c hb (by decide)
theorem o_of8 {k : Nat} {f : Nat → Int32} {B O b : Nat} (c : CI f B O) (hb : b < B) : f_X7_of k f (Int32.ofNat b) 8 = some (f (8 + b * 11 + 8)) := o_of (w := 8) c hb (by decide)
theorem o_of9 {k : Nat} {f : Nat → Int32} {B O b : Nat} (c : CI f B O) (hb : b < B) : f_X7_of k f (Int32.ofNat b) 9 = some (f (8 + b * 11 + 9)) := o_of (w := 9) c hb (by decide)
theorem o_of10 {k : Nat} {f : Nat → Int32} {B O b : Nat} (c : CI f B O) (hb : b < B) : f_X7_of k f (Int32.ofNat b) 10 = some (f (8 + b * 11 + 10)) := o_of (w := 10) c hb (by decide)
theorem o_or {k : Nat} {f : Nat → Int32} {B O b w : Nat} (c : CI f B O) (hb : b < O) (hw : w < 6) : f_X7_ofOrder k f (Int32.ofNat b) (Int32.ofNat w) = some (f (272 + b * 6 + w)) := by
  have hO := c.hO
  rw [f_X7_ofOrder, h_ord1 c k hb, zb1_some, if_neg n10, if_neg (n_lt0 (by omega)), if_pos (show Int32.ofNat w ≤ 6 from (n_le (b := 6) (by omega) (by omega)).mpr (by omega)), if_neg (show ¬ Int32.ofNat w = 6 from fun q => absurd ((n_inj (b := 6) (by omega) (by omega)).mp q) (by omega)), s_ord (by omega) hw, zb1_some]
theorem o_or6 {k : Nat} {f : Nat → Int32} {B O b : Nat} (c : CI f B O) (hk : 25 ≤ k) (hb : b < O) : f_X7_ofOrder k f (Int32.ofNat b) 6 = some (zbs (fun i => !decide (zgiv f b i = -6)) B) := by
  have hO := c.hO
  rw [f_X7_ofOrder, h_ord1 c k hb, zb1_some, if_neg n10, if_neg (by decide), if_pos (by decide), if_pos rfl, s_btg c hk (by omega), zb1_some]
theorem o_or0 {k : Nat} {f : Nat → Int32} {B O b : Nat} (c : CI f B O) (hb : b < O) : f_X7_ofOrder k f (Int32.ofNat b) 0 = some (f (272 + b * 6 + 0)) := o_or (w := 0) c hb (by decide)
theorem o_or1 {k : Nat} {f : Nat → Int32} {B O b : Nat} (c : CI f B O) (hb : b < O) : f_X7_ofOrder k f (Int32.ofNat b) 1 = some (f (272 + b * 6 + 1)) := o_or (w := 1) c hb (by decide)
theorem o_or2 {k : Nat} {f : Nat → Int32} {B O b : Nat} (c : CI f B O) (hb : b < O) : f_X7_ofOrder k f (Int32.ofNat b) 2 = some (f (272 + b * 6 + 2)) := o_or (w := 2) c hb (by decide)
theorem o_or3 {k : Nat} {f : Nat → Int32} {B O b : Nat} (c : CI f B O) (hb : b < O) : f_X7_ofOrder k f (Int32.ofNat b) 3 = some (f (272 + b * 6 + 3)) := o_or (w := 3) c hb (by decide)
theorem o_or4 {k : Nat} {f : Nat → Int32} {B O b : Nat} (c : CI f B O) (hb : b < O) : f_X7_ofOrder k f (Int32.ofNat b) 4 = some (f (272 + b * 6 + 4)) := o_or (w := 4) c hb (by decide)
theorem o_or5 {k : Nat} {f : Nat → Int32} {B O b : Nat} (c : CI f B O) (hb : b < O) : f_X7_ofOrder k f (Int32.ofNat b) 5 = some (f (272 + b * 6 + 5)) := o_or (w := 5) c hb (by decide)
theorem o_c1 {k : Nat} {f : Nat → Int32} {B O : Nat} {hz pl : Int32} (c : CI f B O) : f_X7_count k f hz pl 1 = some (Int32.ofNat B) := by
  have hB := c.hB
  rw [f_X7_count, if_neg (by decide), if_pos rfl, s_cell6, zb1_some, c.f6]
theorem o_c2 {k : Nat} {f : Nat → Int32} {B O : Nat} {hz pl : Int32} (c : CI f B O) : f_X7_count k f hz pl 2 = some (Int32.ofNat O) := by
  have hB := c.hB
  rw [f_X7_count, if_neg (by decide), if_neg (by decide), if_pos rfl, s_cell7, zb1_some, c.f7]
theorem o_c3 {k : Nat} {f : Nat → Int32} {B O : Nat} {hz pl : Int32} (c : CI f B O) : f_X7_count k f hz pl 3 = some (f 4) := by
  have hB := c.hB
  rw [f_X7_count, if_neg (by decide), if_neg (by decide), if_neg (by decide), if_pos rfl, s_cell4, zb1_some]
theorem o_c4 {k : Nat} {f : Nat → Int32} {B O : Nat} {hz pl : Int32} (c : CI f B O) (hk : 25 ≤ k) : f_X7_count k f hz pl 4 = some (zbs (fun b => decide (f (8 + b * 11 + 5) = 1)) B) := by
  have hB := c.hB
  rw [f_X7_count, if_neg (by decide), if_neg (by decide), if_neg (by decide), if_neg (by decide), if_pos rfl, s_bw5 c hk, zb1_some]
theorem o_c5 {k : Nat} {f : Nat → Int32} {B O : Nat} {hz pl : Int32} (c : CI f B O) (hk : 25 ≤ k) : f_X7_count k f hz pl 5 = some (zbs (fun b => decide (f (8 + b * 11 + 7) = 1) && !decide (f (8 + b * 11 + 5) = 4)) B) := by
  have hB := c.hB
  rw [f_X7_count, if_neg (by decide), if_neg (by decide), if_neg (by decide), if_neg (by decide), if_neg (by decide), if_pos rfl, s_bw7 c hk, zb1_some, s_uncut c hk, zb1_some, zl_e, b_and (by omega)]
theorem o_c6 {k : Nat} {f : Nat → Int32} {B O : Nat} {hz pl : Int32} (c : CI f B O) (hk : 25 ≤ k) : f_X7_count k f hz pl 6 = some (zsum (fun b => f (8 + b * 11 + 4)) (fun b => decide (f (8 + b * 11 + 10) = -6)) B) := by
  have hB := c.hB
  rw [f_X7_count, if_neg (by decide), if_neg (by decide), if_neg (by decide), if_neg (by decide), if_neg (by decide), if_neg (by decide), if_pos rfl, s_quarried c hk, zb1_some]
theorem o_c7 {k : Nat} {f : Nat → Int32} {B O : Nat} {hz pl : Int32} (c : CI f B O) (hk : 25 ≤ k) : f_X7_count k f hz pl 7 = some (zsum (fun b => f (8 + b * 11 + 4)) (fun b => !decide (f (8 + b * 11 + 5) = 4)) B) := by
  have hB := c.hB
  rw [f_X7_count, if_neg (by decide), if_neg (by decide), if_neg (by decide), if_neg (by decide), if_neg (by decide), if_neg (by decide), if_neg (by decide), if_pos rfl, s_uncutW c hk, zb1_some]
theorem o_c8 {k : Nat} {f : Nat → Int32} {B O : Nat} {hz pl : Int32} (c : CI f B O) (hk : 25 ≤ k) : f_X7_count k f hz pl 8 = some (zsum (fun b => f (8 + b * 11 + 4)) (fun b => decide (f (8 + b * 11 + 10) = -6)) B - zsum (fun b => f (8 + b * 11 + 4)) (fun b => !decide (f (8 + b * 11 + 5) = 4)) B) := by
  have hB := c.hB
  rw [f_X7_count, if_neg (by decide), if_neg (by decide), if_neg (by decide), if_neg (by decide), if_neg (by decide), if_neg (by decide), if_neg (by decide), if_neg (by decide), if_pos rfl, s_lost c hk, zb1_some]
theorem o_c9 {k : Nat} {f : Nat → Int32} {B O : Nat} {hz pl : Int32} (c : CI f B O) (hk : 25 ≤ k) : f_X7_count k f hz pl 9 = some (zsum (fun b => f (8 + b * 11 + 4)) (fun b => decide (f (8 + b * 11 + 5) = 3)) B) := by
  have hB := c.hB
  rw [f_X7_count, if_neg (by decide), if_neg (by decide), if_neg (by decide), if_neg (by decide), if_neg (by decide), if_neg (by decide), if_neg (by decide), if_neg (by decide), if_neg (by decide), if_pos rfl, s_bw5 c hk, zb1_some, s_wof c hk, zb1_some]
theorem o_c10 {k : Nat} {f : Nat → Int32} {B O : Nat} {hz pl : Int32} (c : CI f B O) (hk : 25 ≤ k) : f_X7_count k f hz pl 10 = some (zsum (fun b => f (272 + b * 6 + 5)) (fun b => decide (f (272 + b * 6 + 3) = 2)) O) := by
  have hB := c.hB
  rw [f_X7_count, if_neg (by decide), if_neg (by decide), if_neg (by decide), if_neg (by decide), if_neg (by decide), if_neg (by decide), if_neg (by decide), if_neg (by decide), if_neg (by decide), if_neg (by decide), if_pos rfl, s_invs c hk, zb1_some]
theorem o_c12 {k : Nat} {f : Nat → Int32} {B O : Nat} {hz pl : Int32} (c : CI f B O) : f_X7_count k f hz pl 12 = some (f 0) := by
  have hB := c.hB
  rw [f_X7_count, if_neg (by decide), if_neg (by decide), if_neg (by decide), if_neg (by decide), if_neg (by decide), if_neg (by decide), if_neg (by decide), if_neg (by decide), if_neg (by decide), if_neg (by decide), if_neg (by decide), if_neg (by decide), if_pos rfl, s_cell0, zb1_some]
theorem o_c14 {k : Nat} {f : Nat → Int32} {B O : Nat} {hz pl : Int32} (c : CI f B O) : f_X7_count k f hz pl 14 = some (f 3) := by
  have hB := c.hB
  rw [f_X7_count, if_neg (by decide), if_neg (by decide), if_neg (by decide), if_neg (by decide), if_neg (by decide), if_neg (by decide), if_neg (by decide), if_neg (by decide), if_neg (by decide), if_neg (by decide), if_neg (by decide), if_neg (by decide), if_neg (by decide), if_neg (by decide), if_pos rfl, s_cell3, zb1_some]
theorem o_c16 {k : Nat} {f : Nat → Int32} {hz pl : Int32} : f_X7_count k f hz pl 16 = some hz := by
  rw [f_X7_count, if_neg (by decide), if_neg (by decide), if_neg (by decide), if_neg (by decide), if_neg (by decide), if_neg (by decide), if_neg (by decide), if_neg (by decide), if_neg (by decide), if_neg (by decide), if_neg (by decide), if_neg (by decide), if_neg (by decide), if_neg (by decide), if_neg (by decide), if_neg (by decide), if_pos rfl]
  rfl
