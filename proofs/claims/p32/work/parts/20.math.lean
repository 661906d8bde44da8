/-! the class, as in the proof of whole (wip/p32/math/ext.py) -/
theorem zb1_e {α ρ : Type} {o : Option α} {a : α} {k : α → Option ρ} (h : o = some a) : zb1 o k = k a := by rw [h]; rfl
theorem zb2_e {α β ρ : Type} {o : Option (α × β)} {a : α} {b : β} {k : α → β → Option ρ} (h : o = some (a, b)) : zb2 o k = k a b := by rw [h]; rfl
theorem zb1_some {α ρ : Type} {a : α} {k : α → Option ρ} : zb1 (some a) k = k a := rfl
theorem zb2_some {α β ρ : Type} {a : α} {b : β} {k : α → β → Option ρ} : zb2 (some (a, b)) k = k a b := rfl
theorem zb3_some {α β γ ρ : Type} {a : α} {b : β} {c : γ} {k : α → β → γ → Option ρ} : zb3 (some (a, b, c)) k = k a b c := rfl
theorem zb4_some {α β γ δ ρ : Type} {a : α} {b : β} {c : γ} {d : δ} {k : α → β → γ → δ → Option ρ} : zb4 (some (a, b, c, d)) k = k a b c d := rfl
theorem zb5_some {α β γ δ ε ρ : Type} {a : α} {b : β} {c : γ} {d : δ} {e : ε} {k : α → β → γ → δ → ε → Option ρ} : zb5 (some (a, b, c, d, e)) k = k a b c d e := rfl
theorem zl_e {α β : Type} (x : α) (k : α → β) : zl x k = k x := rfl
theorem zg_true {ρ : Type} (k : Option ρ) : zg true k = k := rfl
theorem n_nat {a : Nat} (h : a < 2147483648) : (Int32.ofNat a).toNatClampNeg = a := Int32.toNatClampNeg_ofNat_of_lt h
theorem n_zin {a n : Nat} (h : a < n) (hn : n < 2147483648) : zin (Int32.ofNat a) n = true := by
  unfold zin
  rw [Int32.toInt_ofNat_of_lt (by omega)]
  exact decide_eq_true ⟨by omega, by omega⟩
theorem n_lt {a b : Nat} (ha : a < 2147483648) (hb : b < 2147483648) : (Int32.ofNat a < Int32.ofNat b) ↔ a < b := Int32.ofNat_lt_ofNat ha hb
theorem n_le {a b : Nat} (ha : a < 2147483648) (hb : b < 2147483648) : (Int32.ofNat a ≤ Int32.ofNat b) ↔ a ≤ b := Int32.ofNat_le_ofNat ha hb
theorem n_lt0 {a : Nat} (ha : a < 2147483648) : ¬ (Int32.ofNat a < 0) := fun h => absurd ((n_lt (b := 0) ha (by omega)).mp h) (by omega)
theorem n_inj {a b : Nat} (ha : a < 2147483648) (hb : b < 2147483648) : (Int32.ofNat a = Int32.ofNat b) ↔ a = b := ⟨fun h => by
  have := congrArg Int32.toNatClampNeg h
  rwa [n_nat ha, n_nat hb] at this, fun h => by rw [h]⟩
theorem n_add (a b : Nat) : Int32.ofNat a + Int32.ofNat b = Int32.ofNat (a + b) := (Int32.ofNat_add a b).symm
theorem n_mul (a b : Nat) : Int32.ofNat a * Int32.ofNat b = Int32.ofNat (a * b) := (Int32.ofNat_mul a b).symm
theorem n_of {x : Int32} {n : Nat} (h0 : ¬ x < 0) (h : ¬ Int32.ofNat n ≤ x) (hn : n < 2147483648) : ∃ a : Nat, a < n ∧ x = Int32.ofNat a := by
  have h1 : 0 ≤ x.toInt := by
    rw [Int32.lt_iff_toInt_lt] at h0
    exact Int.not_lt.mp h0
  have h2 : x.toInt < n := by
    rw [Int32.le_iff_toInt_le, Int32.toInt_ofNat_of_lt hn] at h
    omega
  refine ⟨x.toInt.toNat, by omega, ?_⟩
  apply Int32.toInt_inj.mp
  rw [Int32.toInt_ofNat_of_lt (by omega)]
  omega
theorem n_neg6 {a : Nat} (ha : a < 2147483648) : ¬ (Int32.ofNat a = -6) := fun h => by
  have := congrArg Int32.toInt h
  rw [Int32.toInt_ofNat_of_lt ha, show (-6 : Int32).toInt = -6 by decide] at this
  omega
theorem upd_at {f : Nat → Int32} {i : Nat} {v : Int32} : upd f i v i = v := by simp [upd]
theorem upd_ne {f : Nat → Int32} {i j : Nat} {v : Int32} (h : j ≠ i) : upd f i v j = f j := by simp [upd, h]
theorem n_344 {a : Nat} (h : a < 344) : ¬ (344 : Int32) ≤ Int32.ofNat a := fun q => absurd ((n_le (a := 344) (by omega) (by omega)).mp q) (by omega)
theorem s_cell {k : Nat} {f : Nat → Int32} {i : Nat} (hi : i < 344) : f_X5_cell k f (Int32.ofNat i) = some (f i) := by
  rw [f_X5_cell, if_neg (n_lt0 (by omega)), if_neg (n_344 (by omega)), n_zin hi (by omega), n_nat (by omega)]
  rfl
theorem s_set {k : Nat} {f : Nat → Int32} {i : Nat} {v : Int32} (hi : i < 344) : f_X5_setCell k f (Int32.ofNat i) v = some (upd f i v) := by
  rw [f_X5_setCell, if_neg (n_lt0 (by omega)), if_neg (n_344 (by omega)), n_zin hi (by omega), n_nat (by omega)]
  rfl
theorem s_blk {k : Nat} {f : Nat → Int32} {b w : Nat} (hb : b < 24) (hw : w < 11) : f_X5_blockCell k f (Int32.ofNat b) (Int32.ofNat w) = some (f (8 + b * 11 + w)) := by
  have e : (8 : Int32) + Int32.ofNat b * 11 + Int32.ofNat w = Int32.ofNat (8 + b * 11 + w) := by
    rw [show (8 : Int32) = Int32.ofNat 8 from rfl, show (11 : Int32) = Int32.ofNat 11 from rfl, n_mul, n_add, n_add]
  rw [f_X5_blockCell]
  simp only [zl_e]
  rw [e, if_neg (n_lt0 (by omega)), if_neg (n_344 (by omega)), n_zin (by omega) (by omega), n_nat (by omega)]
  rfl
theorem s_sblk {k : Nat} {f : Nat → Int32} {b w : Nat} {v : Int32} (hb : b < 24) (hw : w < 11) : f_X5_setBlockCell k f (Int32.ofNat b) (Int32.ofNat w) v = some (upd f (8 + b * 11 + w) v) := by
  have e : (8 : Int32) + Int32.ofNat b * 11 + Int32.ofNat w = Int32.ofNat (8 + b * 11 + w) := by
    rw [show (8 : Int32) = Int32.ofNat 8 from rfl, show (11 : Int32) = Int32.ofNat 11 from rfl, n_mul, n_add, n_add]
  rw [f_X5_setBlockCell]
  simp only [zl_e]
  rw [e, s_set (by omega)]
  rfl
theorem s_ord {k : Nat} {f : Nat → Int32} {b w : Nat} (hb : b < 10) (hw : w < 6) : f_X5_orderCell k f (Int32.ofNat b) (Int32.ofNat w) = some (f (272 + b * 6 + w)) := by
  have e : (272 : Int32) + Int32.ofNat b * 6 + Int32.ofNat w = Int32.ofNat (272 + b * 6 + w) := by
    rw [show (272 : Int32) = Int32.ofNat 272 from rfl, show (6 : Int32) = Int32.ofNat 6 from rfl, n_mul, n_add, n_add]
  rw [f_X5_orderCell]
  simp only [zl_e]
  rw [e, s_cell (by omega)]
  rfl
theorem s_sord {k : Nat} {f : Nat → Int32} {b w : Nat} {v : Int32} (hb : b < 10) (hw : w < 6) : f_X5_setOrderCell k f (Int32.ofNat b) (Int32.ofNat w) v = some (upd f (272 + b * 6 + w) v) := by
  have e : (272 : Int32) + Int32.ofNat b * 6 + Int32.ofNat w = Int32.ofNat (272 + b * 6 + w) := by
    rw [show (272 : Int32) = Int32.ofNat 272 from rfl, show (6 : Int32) = Int32.ofNat 6 from rfl, n_mul, n_add, n_add]
  rw [f_X5_setOrderCell]
  simp only [zl_e]
  rw [e, s_set (by omega)]
  rfl
theorem s_lor {k : Nat} {f : Nat → Int32} {b w : Nat} (hb : b < 3) (hw : w < 4) : f_X5_lorryCell k f (Int32.ofNat b) (Int32.ofNat w) = some (f (332 + b * 4 + w)) := by
  have e : (332 : Int32) + Int32.ofNat b * 4 + Int32.ofNat w = Int32.ofNat (332 + b * 4 + w) := by
    rw [show (332 : Int32) = Int32.ofNat 332 from rfl, show (4 : Int32) = Int32.ofNat 4 from rfl, n_mul, n_add, n_add]
  rw [f_X5_lorryCell]
  simp only [zl_e]
  rw [e, s_cell (by omega)]
  rfl
theorem s_slor {k : Nat} {f : Nat → Int32} {b w : Nat} {v : Int32} (hb : b < 3) (hw : w < 4) : f_X5_setLorryCell k f (Int32.ofNat b) (Int32.ofNat w) v = some (upd f (332 + b * 4 + w) v) := by
  have e : (332 : Int32) + Int32.ofNat b * 4 + Int32.ofNat w = Int32.ofNat (332 + b * 4 + w) := by
    rw [show (332 : Int32) = Int32.ofNat 332 from rfl, show (4 : Int32) = Int32.ofNat 4 from rfl, n_mul, n_add, n_add]
  rw [f_X5_setLorryCell]
  simp only [zl_e]
  rw [e, s_set (by omega)]
  rfl
theorem s_cell0 {k : Nat} {f : Nat → Int32} : f_X5_cell k f 0 = some (f 0) := s_cell (i := 0) (by decide)
theorem s_set0 {k : Nat} {f : Nat → Int32} {v : Int32} : f_X5_setCell k f 0 v = some (upd f 0 v) := s_set (i := 0) (by decide)
theorem s_cell1 {k : Nat} {f : Nat → Int32} : f_X5_cell k f 1 = some (f 1) := s_cell (i := 1) (by decide)
theorem s_set1 {k : Nat} {f : Nat → Int32} {v : Int32} : f_X5_setCell k f 1 v = some (upd f 1 v) := s_set (i := 1) (by decide)
theorem s_cell2 {k : Nat} {f : Nat → Int32} : f_X5_cell k f 2 = some (f 2) := s_cell (i := 2) (by decide)
theorem s_set2 {k : Nat} {f : Nat → Int32} {v : Int32} : f_X5_setCell k f 2 v = some (upd f 2 v) := s_set (i := 2) (by decide)
theorem s_cell3 {k : Nat} {f : Nat → Int32} : f_X5_cell k f 3 = some (f 3) := s_cell (i := 3) (by decide)
theorem s_set3 {k : Nat} {f : Nat → Int32} {v : Int32} : f_X5_setCell k f 3 v = some (upd f 3 v) := s_set (i := 3) (by decide)
theorem s_cell4 {k : Nat} {f : Nat → Int32} : f_X5_cell k f 4 = some (f 4) := s_cell (i := 4) (by decide)
theorem s_set4 {k : Nat} {f : Nat → Int32} {v : Int32} : f_X5_setCell k f 4 v = some (upd f 4 v) := s_set (i := 4) (by decide)
theorem s_cell5 {k : Nat} {f : Nat → Int32} : f_X5_cell k f 5 = some (f 5) := s_cell (i := 5) (by decide)
theorem s_set5 {k : Nat} {f : Nat → Int32} {v : Int32} : f_X5_setCell k f 5 v = some (upd f 5 v) := s_set (i := 5) (by decide)
theorem s_cell6 {k : Nat} {f : Nat → Int32} : f_X5_cell k f 6 = some (f 6) := s_cell (i := 6) (by decide)
theorem s_set6 {k : Nat} {f : Nat → Int32} {v : Int32} : f_X5_setCell k f 6 v = some (upd f 6 v) := s_set (i := 6) (by decide)
theorem s_cell7 {k : Nat} {f : Nat → Int32} : f_X5_cell k f 7 = some (f 7) := s_cell (i := 7) (by decide)
theorem s_set7 {k : Nat} {f : Nat → Int32} {v : Int32} : f_X5_setCell k f 7 v = some (upd f 7 v) := s_set (i := 7) (by decide)
theorem s_blk0 {k : Nat} {f : Nat → Int32} {b : Nat} (hb : b < 24) : f_X5_blockCell k f (Int32.ofNat b) 0 = some (f (8 + b * 11 + 0)) := s_blk (w := 0) hb (by decide)
theorem s_sblk0 {k : Nat} {f : Nat → Int32} {b : Nat} {v : Int32} (hb : b < 24) : f_X5_setBlockCell k f (Int32.ofNat b) 0 v = some (upd f (8 + b * 11 + 0) v) := s_sblk (w := 0) hb (by decide)
theorem s_blk1 {k : Nat} {f : Nat → Int32} {b : Nat} (hb : b < 24) : f_X5_blockCell k f (Int32.ofNat b) 1 = some (f (8 + b * 11 + 1)) := s_blk (w := 1) hb (by decide)
theorem s_sblk1 {k : Nat} {f : Nat → Int32} {b : Nat} {v : Int32} (hb : b < 24) : f_X5_setBlockCell k f (Int32.ofNat b) 1 v = some (upd f (8 + b * 11 + 1) v) := s_sblk (w := 1) hb (by decide)
theorem s_blk2 {k : Nat} {f : Nat → Int32} {b : Nat} (hb : b < 24) : f_X5_blockCell k f (Int32.ofNat b) 2 = some (f (8 + b * 11 + 2)) := s_blk (w := 2) hb (by decide)
theorem s_sblk2 {k : Nat} {f : Nat → Int32} {b : Nat} {v : Int32} (hb : b < 24) : f_X5_setBlockCell k f (Int32.ofNat b) 2 v = some (upd f (8 + b * 11 + 2) v) := s_sblk (w := 2) hb (by decide)
theorem s_blk3 {k : Nat} {f : Nat → Int32} {b : Nat} (hb : b < 24) : f_X5_blockCell k f (Int32.ofNat b) 3 = some (f (8 + b * 11 + 3)) := s_blk (w := 3) hb (by decide)
theorem s_sblk3 {k : Nat} {f : Nat → Int32} {b : Nat} {v : Int32} (hb : b < 24) : f_X5_setBlockCell k f (Int32.ofNat b) 3 v = some (upd f (8 + b * 11 + 3) v) := s_sblk (w := 3) hb (by decide)
theorem s_blk4 {k : Nat} {f : Nat → Int32} {b : Nat} (hb : b < 24) : f_X5_blockCell k f (Int32.ofNat b) 4 = some (f (8 + b * 11 + 4)) := s_blk (w := 4) hb (by decide)
theorem s_sblk4 {k : Nat} {f : Nat → Int32} {b : Nat} {v : Int32} (hb : b < 24) : f_X5_setBlockCell k f (Int32.ofNat b) 4 v = some (upd f (8 + b * 11 + 4) v) := s_sblk (w := 4) hb (by decide)
theorem s_blk5 {k : Nat} {f : Nat → Int32} {b : Nat} (hb : b < 24) : f_X5_blockCell k f (Int32.ofNat b) 5 = some (f (8 + b * 11 + 5)) := s_blk (w := 5) hb (by decide)
theorem s_sblk5 {k : Nat} {f : Nat → Int32} {b : Nat} {v : Int32} (hb : b < 24) : f_X5_setBlockCell k f (Int32.ofNat b) 5 v = some (upd f (8 + b * 11 + 5) v) := s_sblk (w := 5) hb (by decide)
theorem s_blk6 {k : Nat} {f : Nat → Int32} {b : Nat} (hb : b < 24) : f_X5_blockCell k f (Int32.ofNat b) 6 = some (f (8 + b * 11 + 6)) := s_blk (w := 6) hb (by decide)
theorem s_sblk6 {k : Nat} {f : Nat → Int32} {b : Nat} {v : Int32} (hb : b < 24) : f_X5_setBlockCell k f (Int32.ofNat b) 6 v = some (upd f (8 + b * 11 + 6) v) := s_sblk (w := 6) hb (by decide)
theorem s_blk7 {k : Nat} {f : Nat → Int32} {b : Nat} (hb : b < 24) : f_X5_blockCell k f (Int32.ofNat b) 7 = some (f (8 + b * 11 + 7)) := s_blk (w := 7) hb (by decide)
theorem s_sblk7 {k : Nat} {f : Nat → Int32} {b : Nat} {v : Int32} (hb : b < 24) : f_X5_setBlockCell k f (Int32.ofNat b) 7 v = some (upd f (8 + b * 11 + 7) v) := s_sblk (w := 7) hb (by decide)
theorem s_blk8 {k : Nat} {f : Nat → Int32} {b : Nat} (hb : b < 24) : f_X5_blockCell k f (Int32.ofNat b) 8 = some (f (8 + b * 11 + 8)) := s_blk (w := 8) hb (by decide)
theorem s_sblk8 {k : Nat} {f : Nat → Int32} {b : Nat} {v : Int32} (hb : b < 24) : f_X5_setBlockCell k f (Int32.ofNat b) 8 v = some (upd f (8 + b * 11 + 8) v) := s_sblk (w := 8) hb (by decide)
theorem s_blk9 {k : Nat} {f : Nat → Int32} {b : Nat} (hb : b < 24) : f_X5_blockCell k f (Int32.ofNat b) 9 = some (f (8 + b * 11 + 9)) := s_blk (w := 9) hb (by decide)
theorem s_sblk9 {k : Nat} {f : Nat → Int32} {b : Nat} {v : Int32} (hb : b < 24) : f_X5_setBlockCell k f (Int32.ofNat b) 9 v = some (upd f (8 + b * 11 + 9) v) := s_sblk (w := 9) hb (by decide)
theorem s_blk10 {k : Nat} {f : Nat → Int32} {b : Nat} (hb : b < 24) : f_X5_blockCell k f (Int32.ofNat b) 10 = some (f (8 + b * 11 + 10)) := s_blk (w := 10) hb (by decide)
theorem s_sblk10 {k : Nat} {f : Nat → Int32} {b : Nat} {v : Int32} (hb : b < 24) : f_X5_setBlockCell k f (Int32.ofNat b) 10 v = some (upd f (8 + b * 11 + 10) v) := s_sblk (w := 10) hb (by decide)
theorem s_ord0 {k : Nat} {f : Nat → Int32} {b : Nat} (hb : b < 10) : f_X5_orderCell k f (Int32.ofNat b) 0 = some (f (272 + b * 6 + 0)) := s_ord (w := 0) hb (by decide)
theorem s_sord0 {k : Nat} {f : Nat → Int32} {b : Nat} {v : Int32} (hb : b < 10) : f_X5_setOrderCell k f (Int32.ofNat b) 0 v = some (upd f (272 + b * 6 + 0) v) := s_sord (w := 0) hb (by decide)
theorem s_ord1 {k : Nat} {f : Nat → Int32} {b : Nat} (hb : b < 10) : f_X5_orderCell k f (Int32.ofNat b) 1 = some (f (272 + b * 6 + 1)) := s_ord (w := 1) hb (by decide)
theorem s_sord1 {k : Nat} {f : Nat → Int32} {b : Nat} {v : Int32} (hb : b < 10) : f_X5_setOrderCell k f (Int32.ofNat b) 1 v = some (upd f (272 + b * 6 + 1) v) := s_sord (w := 1) hb (by decide)
theorem s_ord2 {k : Nat} {f : Nat → Int32} {b : Nat} (hb : b < 10) : f_X5_orderCell k f (Int32.ofNat b) 2 = some (f (272 + b * 6 + 2)) := s_ord (w := 2) hb (by decide)
theorem s_sord2 {k : Nat} {f : Nat → Int32} {b : Nat} {v : Int32} (hb : b < 10) : f_X5_setOrderCell k f (Int32.ofNat b) 2 v = some (upd f (272 + b * 6 + 2) v) := s_sord (w := 2) hb (by decide)
theorem s_ord3 {k : Nat} {f : Nat → Int32} {b : Nat} (hb : b < 10) : f_X5_orderCell k f (Int32.ofNat b) 3 = some (f (272 + b * 6 + 3)) := s_ord (w := 3) hb (by decide)
theorem s_sord3 {k : Nat} {f : Nat → Int32} {b : Nat} {v : Int32} (hb : b < 10) : f_X5_setOrderCell k f (Int32.ofNat b) 3 v = some (upd f (272 + b * 6 + 3) v) := s_sord (w := 3) hb (by decide)
theorem s_ord4 {k : Nat} {f : Nat → Int32} {b : Nat} (hb : b < 10) : f_X5_orderCell k f (Int32.ofNat b) 4 = some (f (272 + b * 6 + 4)) := s_ord (w := 4) hb (by decide)
theorem s_sord4 {k : Nat} {f : Nat → Int32} {b : Nat} {v : Int32} (hb : b < 10) : f_X5_setOrderCell k f (Int32.ofNat b) 4 v = some (upd f (272 + b * 6 + 4) v) := s_sord (w := 4) hb (by decide)
theorem s_ord5 {k : Nat} {f : Nat → Int32} {b : Nat} (hb : b < 10) : f_X5_orderCell k f (Int32.ofNat b) 5 = some (f (272 + b * 6 + 5)) := s_ord (w := 5) hb (by decide)
theorem s_sord5 {k : Nat} {f : Nat → Int32} {b : Nat} {v : Int32} (hb : b < 10) : f_X5_setOrderCell k f (Int32.ofNat b) 5 v = some (upd f (272 + b * 6 + 5) v) := s_sord (w := 5) hb (by decide)
theorem s_lor0 {k : Nat} {f : Nat → Int32} {b : Nat} (hb : b < 3) : f_X5_lorryCell k f (Int32.ofNat b) 0 = some (f (332 + b * 4 + 0)) := s_lor (w := 0) hb (by decide)
theorem s_slor0 {k : Nat} {f : Nat → Int32} {b : Nat} {v : Int32} (hb : b < 3) : f_X5_setLorryCell k f (Int32.ofNat b) 0 v = some (upd f (332 + b * 4 + 0) v) := s_slor (w := 0) hb (by decide)
theorem s_lor1 {k : Nat} {f : Nat → Int32} {b : Nat} (hb : b < 3) : f_X5_lorryCell k f (Int32.ofNat b) 1 = some (f (332 + b * 4 + 1)) := s_lor (w := 1) hb (by decide)
theorem s_slor1 {k : Nat} {f : Nat → Int32} {b : Nat} {v : Int32} (hb : b < 3) : f_X5_setLorryCell k f (Int32.ofNat b) 1 v = some (upd f (332 + b * 4 + 1) v) := s_slor (w := 1) hb (by decide)
theorem s_lor2 {k : Nat} {f : Nat → Int32} {b : Nat} (hb : b < 3) : f_X5_lorryCell k f (Int32.ofNat b) 2 = some (f (332 + b * 4 + 2)) := s_lor (w := 2) hb (by decide)
theorem s_slor2 {k : Nat} {f : Nat → Int32} {b : Nat} {v : Int32} (hb : b < 3) : f_X5_setLorryCell k f (Int32.ofNat b) 2 v = some (upd f (332 + b * 4 + 2) v) := s_slor (w := 2) hb (by decide)
theorem s_lor3 {k : Nat} {f : Nat → Int32} {b : Nat} (hb : b < 3) : f_X5_lorryCell k f (Int32.ofNat b) 3 = some (f (332 + b * 4 + 3)) := s_lor (w := 3) hb (by decide)
theorem s_slor3 {k : Nat} {f : Nat → Int32} {b : Nat} {v : Int32} (hb : b < 3) : f_X5_setLorryCell k f (Int32.ofNat b) 3 v = some (upd f (332 + b * 4 + 3) v) := s_slor (w := 3) hb (by decide)
