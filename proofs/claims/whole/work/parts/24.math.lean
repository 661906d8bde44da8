/-! THE REFERENCE'S READING, IN ITS OWN CELLS -/
def MI (f : Nat → Int32) (B O : Nat) : Prop := B ≤ 24 ∧ O ≤ 10 ∧ f 5 = Int32.ofNat B ∧ f 6 = Int32.ofNat O
theorem MI.hB {f : Nat → Int32} {B O : Nat} (c : MI f B O) : B ≤ 24 := c.1
theorem MI.hO {f : Nat → Int32} {B O : Nat} (c : MI f B O) : O ≤ 10 := c.2.1
theorem MI.m5 {f : Nat → Int32} {B O : Nat} (c : MI f B O) : f 5 = Int32.ofNat B := c.2.2.1
theorem MI.m6 {f : Nat → Int32} {B O : Nat} (c : MI f B O) : f 6 = Int32.ofNat O := c.2.2.2
theorem m_g {ρ : Type} {n i : Nat} {K : Option ρ} (hi : i < n) (hn : n < 2147483648) : zg (zin (Int32.ofNat i) n) K = K := by
  rw [n_zin hi hn]
  rfl
theorem m_at {k b w : Nat} : f_X8_at k (Int32.ofNat b) (Int32.ofNat w) = some (Int32.ofNat (12 + 10 * b + w)) := by
  rw [f_X8_at]
  simp only [zl_e]
  rw [show (12 : Int32) = Int32.ofNat 12 from rfl, show (10 : Int32) = Int32.ofNat 10 from rfl, n_mul, n_add, n_add]
theorem m_oat {k b w : Nat} : f_X8_ofOrderAt k (Int32.ofNat b) (Int32.ofNat w) = some (Int32.ofNat (252 + 6 * b + w)) := by
  rw [f_X8_ofOrderAt]
  simp only [zl_e]
  rw [show (252 : Int32) = Int32.ofNat 252 from rfl, show (6 : Int32) = Int32.ofNat 6 from rfl, n_mul, n_add, n_add]
theorem m_lat {k b w : Nat} : f_X8_ofLorryAt k (Int32.ofNat b) (Int32.ofNat w) = some (Int32.ofNat (312 + 4 * b + w)) := by
  rw [f_X8_ofLorryAt]
  simp only [zl_e]
  rw [show (312 : Int32) = Int32.ofNat 312 from rfl, show (4 : Int32) = Int32.ofNat 4 from rfl, n_mul, n_add, n_add]
theorem m_at0 {k b : Nat} : f_X8_at k (Int32.ofNat b) 0 = some (Int32.ofNat (12 + 10 * b + 0)) := m_at (w := 0)
theorem m_at1 {k b : Nat} : f_X8_at k (Int32.ofNat b) 1 = some (Int32.ofNat (12 + 10 * b + 1)) := m_at (w := 1)
theorem m_at2 {k b : Nat} : f_X8_at k (Int32.ofNat b) 2 = some (Int32.ofNat (12 + 10 * b + 2)) := m_at (w := 2)
theorem m_at3 {k b : Nat} : f_X8_at k (Int32.ofNat b) 3 = some (Int32.ofNat (12 + 10 * b + 3)) := m_at (w := 3)
theorem m_at4 {k b : Nat} : f_X8_at k (Int32.ofNat b) 4 = some (Int32.ofNat (12 + 10 * b + 4)) := m_at (w := 4)
theorem m_at5 {k b : Nat} : f_X8_at k (Int32.ofNat b) 5 = some (Int32.ofNat (12 + 10 * b + 5)) := m_at (w := 5)
theorem m_at6 {k b : Nat} : f_X8_at k (Int32.ofNat b) 6 = some (Int32.ofNat (12 + 10 * b + 6)) := m_at (w := 6)
theorem m_at7 {k b : Nat} : f_X8_at k (Int32.ofNat b) 7 = some (Int32.ofNat (12 + 10 * b + 7)) := m_at (w := 7)
theorem m_at8 {k b : Nat} : f_X8_at k (Int32.ofNat b) 8 = some (Int32.ofNat (12 + 10 * b + 8)) := m_at (w := 8)
theorem m_at9 {k b : Nat} : f_X8_at k (Int32.ofNat b) 9 = some (Int32.ofNat (12 + 10 * b + 9)) := m_at (w := 9)
theorem m_oat0 {k b : Nat} : f_X8_ofOrderAt k (Int32.ofNat b) 0 = some (Int32.ofNat (252 + 6 * b + 0)) := m_oat (w := 0)
theorem m_oat1 {k b : Nat} : f_X8_ofOrderAt k (Int32.ofNat b) 1 = some (Int32.ofNat (252 + 6 * b + 1)) := m_oat (w := 1)
theorem m_oat2 {k b : Nat} : f_X8_ofOrderAt k (Int32.ofNat b) 2 = some (Int32.ofNat (252 + 6 * b + 2)) := m_oat (w := 2)
theorem m_oat3 {k b : Nat} : f_X8_ofOrderAt k (Int32.ofNat b) 3 = some (Int32.ofNat (252 + 6 * b + 3)) := m_oat (w := 3)
theorem m_oat4 {k b : Nat} : f_X8_ofOrderAt k (Int32.ofNat b) 4 = some (Int32.ofNat (252 + 6 * b + 4)) := m_oat (w := 4)
theorem m_oat5 {k b : Nat} : f_X8_ofOrderAt k (Int32.ofNat b) 5 = some (Int32.ofNat (252 + 6 * b + 5)) := m_oat (w := 5)
theorem m_lat0 {k b : Nat} : f_X8_ofLorryAt k (Int32.ofNat b) 0 = some (Int32.ofNat (312 + 4 * b + 0)) := m_lat (w := 0)
theorem m_lat1 {k b : Nat} : f_X8_ofLorryAt k (Int32.ofNat b) 1 = some (Int32.ofNat (312 + 4 * b + 1)) := m_lat (w := 1)
theorem m_lat2 {k b : Nat} : f_X8_ofLorryAt k (Int32.ofNat b) 2 = some (Int32.ofNat (312 + 4 * b + 2)) := m_lat (w := 2)
theorem m_lat3 {k b : Nat} : f_X8_ofLorryAt k (Int32.ofNat b) 3 = some (Int32.ofNat (312 + 4 * b + 3)) := m_lat (w := 3)
theorem m_rd {ρ : Type} {n i : Nat} {ms : Nat → Int32} {K : Int32 → Option ρ} (hi : i < n) (hn : n < 2147483648) : zg (zin (Int32.ofNat i) n) (zl (ms (Int32.ofNat i).toNatClampNeg) K) = K (ms i) := by
  rw [n_zin hi hn, n_nat (by omega)]
  rfl
theorem m_wr {ρ : Type} {n i : Nat} {ms : Nat → Int32} {v : Int32} {K : (Nat → Int32) → Option ρ} (hi : i < n) (hn : n < 2147483648) : zg (zin (Int32.ofNat i) n) (zl (upd ms (Int32.ofNat i).toNatClampNeg v) K) = K (upd ms i v) := by
  rw [n_zin hi hn, n_nat (by omega)]
  rfl
def mw (ms : Nat → Int32) (b : Nat) : Int32 := ms (12 + 10 * b + 0) * ms (12 + 10 * b + 1) * ms (12 + 10 * b + 2) * ms (12 + 10 * b + 3) / 10000
theorem m_weight {k b : Nat} {ms : Nat → Int32} (hb : b < 24) : f_X8_weight k ms (Int32.ofNat b) = some (mw ms b) := by
  rw [f_X8_weight, m_at0, m_at1, m_at2, m_at3]
  simp (disch := omega) only [zl_e, zb1_some, zb2_some, zb3_some, zb4_some, zb5_some, m_g, n_nat, n_suc]
  rfl
theorem m_isAt {k b : Nat} {ms : Nat → Int32} {v : Int32} (hb : b < 24) : f_X8_isAt k ms (Int32.ofNat b) v = some (if ms (12 + 10 * b + 4) = v then 1 else 0) := by
  rw [f_X8_isAt, m_at4, zb1_some, m_rd (by omega) (by omega)]
  by_cases h : ms (12 + 10 * b + 4) = v <;> simp [h]
theorem n10 : ¬ (1 : Int32) = 0 := by decide
theorem m_hand {k b : Nat} {ms : Nat → Int32} (hb : b < 24) : f_X8_isHere k ms (Int32.ofNat b) = some (if ms (12 + 10 * b + 4) = 0 ∨ ms (12 + 10 * b + 4) = 1 then 1 else 0) := by
  rw [f_X8_isHere, m_isAt hb, m_isAt hb]
  simp only [zb1_some]
  by_cases h : ms (12 + 10 * b + 4) = 0
  · simp [h]
  · by_cases h1 : ms (12 + 10 * b + 4) = 1 <;> simp [h, h1]
theorem m_sawn {k b : Nat} {ms : Nat → Int32} (hb : b < 24) : f_X8_canBeCut k ms (Int32.ofNat b) = some (if ms 7 = 0 ∧ (ms (12 + 10 * b + 4) = 0 ∨ ms (12 + 10 * b + 4) = 1) ∧ ms (12 + 10 * b + 7) = -6 then 1 else 0) := by
  rw [f_X8_canBeCut, m_hand hb, m_at7]
  simp (disch := omega) only [zl_e, zb1_some, zb2_some, zb3_some, zb4_some, zb5_some, m_g, n_nat, n_suc]
  by_cases h : ms 7 = 0
  · by_cases h1 : ms (12 + 10 * b + 4) = 0 ∨ ms (12 + 10 * b + 4) = 1
    · by_cases h2 : ms (12 + 10 * b + 7) = -6 <;> simp [h, h1, h2]
    · simp [h, h1]
  · simp [h]
theorem m_crack {k b : Nat} {ms : Nat → Int32} (hb : b < 24) : f_X8_wouldCrack k ms (Int32.ofNat b) = some (if ms (12 + 10 * b + 4) = 0 ∧ ¬ ms (12 + 10 * b + 5) ≤ 0 ∧ ms (12 + 10 * b + 6) = 0 then 1 else 0) := by
  rw [f_X8_wouldCrack, m_isAt hb, m_at5, m_at6]
  simp only [zb1_some]
  rw [m_rd (by omega) (by omega), m_rd (by omega) (by omega)]
  by_cases h : ms (12 + 10 * b + 4) = 0
  · rw [if_pos h, if_neg n10]
    by_cases h1 : ms (12 + 10 * b + 5) ≤ 0
    · rw [if_pos h1, if_neg (fun q => q.2.1 h1)]
    · rw [if_neg h1]
      by_cases h2 : ms (12 + 10 * b + 6) = 0
      · rw [if_pos h2, if_pos ⟨h, h1, h2⟩]
      · rw [if_neg h2, if_neg (fun q => h2 q.2.2)]
  · rw [if_neg h, if_pos rfl, if_neg (fun q => h q.1)]
theorem m_under_loop {k : Nat} {ms : Nat → Int32} {B O : Nat} (c : MI ms B O) : ∀ n i, i ≤ B → B - i < n → f_X8_underRoof_b4 k ms n (Int32.ofNat (zcnt (fun b => decide (ms (12 + 10 * b + 4) = 1)) i)) (Int32.ofNat i) = some (Int32.ofNat (zcnt (fun b => decide (ms (12 + 10 * b + 4) = 1)) B)) := by
  have hB := c.hB
  intro n
  induction n with
  | zero => intro i _ h; omega
  | succ n ih =>
    intro i hi hn
    rw [f_X8_underRoof_b4]
    simp only [zl_e]
    rw [c.m5]
    by_cases h : i < B
    · rw [if_neg (fun q => absurd ((n_le (by omega) (by omega)).mp q) (by omega))]
      have := ih (i + 1) (by omega) (by omega)
      rw [zcnt] at this
      rw [m_isAt (by omega), zb1_some]
      by_cases hq : ms (12 + 10 * i + 4) = 1
      · rw [if_pos (by simpa using hq)] at this
        rw [if_pos hq, if_neg n10, f_X8_underRoof_b29]
        simp only [zl_e, n_suc]
        exact this
      · rw [if_neg (by simpa using hq)] at this
        rw [if_neg hq, if_pos rfl, f_X8_underRoof_b29]
        simp only [zl_e, n_suc, Int32.add_zero]
        exact this
    · have : i = B := by omega
      subst this
      rw [if_pos ((n_le (by omega) (by omega)).mpr (Nat.le_refl _))]
theorem m_under {k : Nat} {ms : Nat → Int32} {B O : Nat} (c : MI ms B O) (hk : 25 ≤ k) : f_X8_underRoof k ms = some (Int32.ofNat (zcnt (fun b => decide (ms (12 + 10 * b + 4) = 1)) B)) := by
  rw [f_X8_underRoof]
  exact m_under_loop c k 0 (by omega) (by have := c.hB; omega)
theorem m_roofs_loop {k : Nat} {ms : Nat → Int32} {B O : Nat} (c : MI ms B O) : ∀ n i, i ≤ B → B - i < n → f_X8_setOf_b4 k ms 0 n (zbs (fun b => decide (ms (12 + 10 * b + 4) = 1)) i) (Int32.ofNat i) = some (zbs (fun b => decide (ms (12 + 10 * b + 4) = 1)) B) := by
  have hB := c.hB
  intro n
  induction n with
  | zero => intro i _ h; omega
  | succ n ih =>
    intro i hi hn
    rw [f_X8_setOf_b4]
    simp only [zl_e]
    rw [c.m5]
    by_cases h : i < B
    · rw [if_neg (fun q => absurd ((n_le (by omega) (by omega)).mp q) (by omega))]
      have := ih (i + 1) (by omega) (by omega)
      rw [zbs] at this
      rw [if_pos trivial, m_isAt (by omega), zb1_some, f_X8_setOf_b56]
      simp only [f_X8_setOf_b71, zl_e, n_suc, Int32.or_zero]
      by_cases hq : ms (12 + 10 * i + 4) = 1
      · rw [if_pos (by simpa using hq)] at this
        rw [if_pos hq, if_neg n10]
        exact this
      · rw [if_neg (by simpa using hq)] at this
        rw [if_neg hq, if_pos rfl]
        exact this
    · have : i = B := by omega
      subst this
      rw [if_pos ((n_le (by omega) (by omega)).mpr (Nat.le_refl _))]
theorem m_roofs {k : Nat} {ms : Nat → Int32} {B O : Nat} (c : MI ms B O) (hk : 25 ≤ k) : f_X8_setOf k ms 0 = some (zbs (fun b => decide (ms (12 + 10 * b + 4) = 1)) B) := by
  rw [f_X8_setOf]
  exact m_roofs_loop c k 0 (by omega) (by have := c.hB; omega)
theorem m_cracks_loop {k : Nat} {ms : Nat → Int32} {B O : Nat} (c : MI ms B O) : ∀ n i, i ≤ B → B - i < n → f_X8_setOf_b4 k ms 1 n (zbs (fun b => decide (ms (12 + 10 * b + 6) = 1) && !decide (ms (12 + 10 * b + 4) = 4)) i) (Int32.ofNat i) = some (zbs (fun b => decide (ms (12 + 10 * b + 6) = 1) && !decide (ms (12 + 10 * b + 4) = 4)) B) := by
  have hB := c.hB
  intro n
  induction n with
  | zero => intro i _ h; omega
  | succ n ih =>
    intro i hi hn
    rw [f_X8_setOf_b4]
    simp only [zl_e]
    rw [c.m5]
    by_cases h : i < B
    · rw [if_neg (fun q => absurd ((n_le (by omega) (by omega)).mp q) (by omega))]
      have := ih (i + 1) (by omega) (by omega)
      rw [zbs] at this
      rw [if_neg n10, m_at6, m_isAt (by omega)]
      simp (disch := omega) only [zl_e, zb1_some, zb2_some, zb3_some, zb4_some, zb5_some, m_g, n_nat, n_suc]
      simp only [f_X8_setOf_b56, f_X8_setOf_b71, zl_e, n_suc, Int32.or_zero]
      by_cases hq : ms (12 + 10 * i + 6) = 1
      · by_cases hr : ms (12 + 10 * i + 4) = 4
        · rw [if_neg (by simp [hr])] at this
          rw [if_pos hq, if_pos hr, if_neg n10, if_pos trivial]
          exact this
        · rw [if_pos (by simp [hr, hq])] at this
          rw [if_pos hq, if_neg hr, if_pos rfl, if_neg n10]
          exact this
      · rw [if_neg (by simp [hq])] at this
        rw [if_neg hq, if_pos trivial]
        exact this
    · have : i = B := by omega
      subst this
      rw [if_pos ((n_le (by omega) (by omega)).mpr (Nat.le_refl _))]
theorem m_cracks {k : Nat} {ms : Nat → Int32} {B O : Nat} (c : MI ms B O) (hk : 25 ≤ k) : f_X8_setOf k ms 1 = some (zbs (fun b => decide (ms (12 + 10 * b + 6) = 1) && !decide (ms (12 + 10 * b + 4) = 4)) B) := by
  rw [f_X8_setOf]
  exact m_cracks_loop c k 0 (by omega) (by have := c.hB; omega)
theorem m_many_loop {k : Nat} {ms : Nat → Int32} {B O : Nat} (c : MI ms B O) : ∀ n i, i ≤ B → B - i < n → f_X8_notCut_b4 k ms 0 n (Int32.ofNat (zcnt (fun b => !decide (ms (12 + 10 * b + 4) = 4)) i)) (Int32.ofNat i) = some (Int32.ofNat (zcnt (fun b => !decide (ms (12 + 10 * b + 4) = 4)) B)) := by
  have hB := c.hB
  intro n
  induction n with
  | zero => intro i _ h; omega
  | succ n ih =>
    intro i hi hn
    rw [f_X8_notCut_b4]
    simp only [zl_e]
    rw [c.m5]
    by_cases h : i < B
    · rw [if_neg (fun q => absurd ((n_le (by omega) (by omega)).mp q) (by omega))]
      have := ih (i + 1) (by omega) (by omega)
      rw [zcnt] at this
      rw [m_isAt (by omega), zb1_some]
      simp only [f_X8_notCut_b41, zl_e, n_suc, Int32.add_zero]
      by_cases hq : ms (12 + 10 * i + 4) = 4
      · rw [if_neg (by simpa using hq)] at this
        rw [if_pos hq, if_neg n10]
        exact this
      · rw [if_pos (by simpa using hq)] at this
        rw [if_neg hq, if_pos rfl, if_pos trivial]
        exact this
    · have : i = B := by omega
      subst this
      rw [if_pos ((n_le (by omega) (by omega)).mpr (Nat.le_refl _))]
theorem m_many {k : Nat} {ms : Nat → Int32} {B O : Nat} (c : MI ms B O) (hk : 25 ≤ k) : f_X8_notCut k ms 0 = some (Int32.ofNat (zcnt (fun b => !decide (ms (12 + 10 * b + 4) = 4)) B)) := by
  rw [f_X8_notCut]
  exact m_many_loop c k 0 (by omega) (by have := c.hB; omega)
theorem m_uncutW_loop {k : Nat} {ms : Nat → Int32} {B O : Nat} (c : MI ms B O) : ∀ n i, i ≤ B → B - i < n → f_X8_notCut_b4 k ms 1 n (zsum (mw ms) (fun b => !decide (ms (12 + 10 * b + 4) = 4)) i) (Int32.ofNat i) = some (zsum (mw ms) (fun b => !decide (ms (12 + 10 * b + 4) = 4)) B) := by
  have hB := c.hB
  intro n
  induction n with
  | zero => intro i _ h; omega
  | succ n ih =>
    intro i hi hn
    rw [f_X8_notCut_b4]
    simp only [zl_e]
    rw [c.m5]
    by_cases h : i < B
    · rw [if_neg (fun q => absurd ((n_le (by omega) (by omega)).mp q) (by omega))]
      have := ih (i + 1) (by omega) (by omega)
      rw [zsum] at this
      rw [m_isAt (by omega), zb1_some, m_weight (by omega), zb1_some]
      simp only [f_X8_notCut_b41, zl_e, n_suc, Int32.add_zero]
      by_cases hq : ms (12 + 10 * i + 4) = 4
      · rw [if_neg (by simpa using hq)] at this
        rw [if_pos hq, if_neg n10]
        exact this
      · rw [if_pos (by simpa using hq)] at this
        rw [if_neg hq, if_pos rfl, if_neg n10]
        exact this
    · have : i = B := by omega
      subst this
      rw [if_pos ((n_le (by omega) (by omega)).mpr (Nat.le_refl _))]
theorem m_uncutW {k : Nat} {ms : Nat → Int32} {B O : Nat} (c : MI ms B O) (hk : 25 ≤ k) : f_X8_notCut k ms 1 = some (zsum (mw ms) (fun b => !decide (ms (12 + 10 * b + 4) = 4)) B) := by
  rw [f_X8_notCut]
  exact m_uncutW_loop c k 0 (by omega) (by have := c.hB; omega)
theorem m_frost_loop {k : Nat} {ms : Nat → Int32} {B O : Nat} (c : MI ms B O) : ∀ n i, i ≤ B → B - i < n → f_X8_ifFrost_b4 k ms n (zbs (fun b => decide (ms (12 + 10 * b + 4) = 0 ∧ ¬ ms (12 + 10 * b + 5) ≤ 0 ∧ ms (12 + 10 * b + 6) = 0)) i) (Int32.ofNat i) = some (zbs (fun b => decide (ms (12 + 10 * b + 4) = 0 ∧ ¬ ms (12 + 10 * b + 5) ≤ 0 ∧ ms (12 + 10 * b + 6) = 0)) B) := by
  have hB := c.hB
  intro n
  induction n with
  | zero => intro i _ h; omega
  | succ n ih =>
    intro i hi hn
    rw [f_X8_ifFrost_b4]
    simp only [zl_e]
    rw [c.m5]
    by_cases h : i < B
    · rw [if_neg (fun q => absurd ((n_le (by omega) (by omega)).mp q) (by omega))]
      have := ih (i + 1) (by omega) (by omega)
      rw [zbs] at this
      rw [m_crack (by omega), zb1_some]
      simp only [f_X8_ifFrost_b30, zl_e, n_suc, Int32.or_zero]
      by_cases hq : ms (12 + 10 * i + 4) = 0 ∧ ¬ ms (12 + 10 * i + 5) ≤ 0 ∧ ms (12 + 10 * i + 6) = 0
      · rw [if_pos (decide_eq_true hq)] at this
        rw [if_pos hq, if_neg n10]
        exact this
      · rw [if_neg (by rw [decide_eq_false hq]; decide)] at this
        rw [if_neg hq, if_pos rfl]
        exact this
    · have : i = B := by omega
      subst this
      rw [if_pos ((n_le (by omega) (by omega)).mpr (Nat.le_refl _))]
theorem m_frost {k : Nat} {ms : Nat → Int32} {B O : Nat} (c : MI ms B O) (hk : 25 ≤ k) : f_X8_ifFrost k ms = some (zbs (fun b => decide (ms (12 + 10 * b + 4) = 0 ∧ ¬ ms (12 + 10 * b + 5) ≤ 0 ∧ ms (12 + 10 * b + 6) = 0)) B) := by
  rw [f_X8_ifFrost]
  exact m_frost_loop c k 0 (by omega) (by have := c.hB; omega)
/-- the last block of which a number has a value, or -6 -/
def zlast (P : Nat → Bool) : Nat → Int32
  | 0 => -6
  | n + 1 => if P n then Int32.ofNat n else zlast P n
theorem m_blockAt_loop {k l p : Nat} {ms : Nat → Int32} {B O : Nat} (c : MI ms B O) : ∀ n i, i ≤ B → B - i < n → f_X8_blockAt_b6 k ms (Int32.ofNat l) (Int32.ofNat p) n (zlast (fun b => decide (ms (12 + 10 * b + 8) = Int32.ofNat (5 * l + p))) i) (Int32.ofNat i) = some (zlast (fun b => decide (ms (12 + 10 * b + 8) = Int32.ofNat (5 * l + p))) B) := by
  have hB := c.hB
  intro n
  induction n with
  | zero => intro i _ h; omega
  | succ n ih =>
    intro i hi hn
    rw [f_X8_blockAt_b6]
    simp only [zl_e]
    rw [c.m5]
    by_cases h : i < B
    · rw [if_neg (fun q => absurd ((n_le (by omega) (by omega)).mp q) (by omega))]
      have := ih (i + 1) (by omega) (by omega)
      rw [zlast] at this
      rw [m_at8]
      simp (disch := omega) only [zl_e, zb1_some, zb2_some, zb3_some, zb4_some, zb5_some, m_g, n_nat, n_suc]
      rw [show (5 : Int32) * Int32.ofNat l + Int32.ofNat p = Int32.ofNat (5 * l + p) by rw [show (5 : Int32) = Int32.ofNat 5 from rfl, n_mul, n_add]]
      by_cases hq : ms (12 + 10 * i + 8) = Int32.ofNat (5 * l + p)
      · rw [if_pos (by simpa using hq)] at this
        rw [if_pos hq]
        exact this
      · rw [if_neg (by simpa using hq)] at this
        rw [if_neg hq]
        exact this
    · have : i = B := by omega
      subst this
      rw [if_pos ((n_le (by omega) (by omega)).mpr (Nat.le_refl _))]
theorem m_blockAt {k l p : Nat} {ms : Nat → Int32} {B O : Nat} (c : MI ms B O) (hk : 25 ≤ k) : f_X8_blockAt k ms (Int32.ofNat l) (Int32.ofNat p) = some (zlast (fun b => decide (ms (12 + 10 * b + 8) = Int32.ofNat (5 * l + p))) B) := by
  rw [f_X8_blockAt]
  exact m_blockAt_loop c k 0 (by omega) (by have := c.hB; omega)
