/-! A DOUBLE'S BITS -/
theorem l_suc (i : Nat) : Int64.ofNat i + 1 = Int64.ofNat (i + 1) := (Int64.ofNat_add i 1).symm
theorem l_pred (i : Nat) : Int64.ofNat (i + 1) - 1 = Int64.ofNat i := by
  rw [Int64.ofNat_add]
  exact Int64.add_sub_cancel ..
theorem l_or (a b : Nat) : Int64.ofNat a ||| Int64.ofNat b = Int64.ofNat (a ||| b) := by
  apply Int64.toBitVec_inj.mp
  rw [Int64.toBitVec_or]
  show BitVec.ofNat 64 a ||| BitVec.ofNat 64 b = BitVec.ofNat 64 (a ||| b)
  exact (BitVec.ofNat_or ..).symm
theorem l_shl : ∀ X, X < 1200 → Int64.ofNat X <<< ((52 : Int32).toInt64 &&& 63) = Int64.ofNat (4503599627370496 * X) := by decide +kernel
theorem d_end {k c X : Nat} {p1 : UInt64} (h : 4503599627370496 ≤ c) (h' : c < 9007199254740992) (hX : X < 1200) : f_X0_ofDouble_b85 k p1 (gb c (-52)) (Int64.ofNat X) = some (Int64.ofNat (4503599627370496 * X + (c - 4503599627370496))) := by
  obtain ⟨a, b, d⟩ := gb_frac h h'
  rw [f_X0_ofDouble_b85, zl_e, a, zg_true, zl_e, b, zg_true]
  simp only [zl_e]
  rw [d, l_shl X hX, l_or]
  have e := Nat.two_pow_add_eq_or_of_lt (i := 52) (b := c - 4503599627370496) (by omega) X
  rw [show (2 : Nat) ^ 52 = 4503599627370496 from rfl] at e
  rw [e]
theorem d_b54 {k : Nat} {p1 : UInt64} {c X : Nat} (h : 4503599627370496 ≤ c) (h' : c < 9007199254740992) (hX : X < 1100) : ∀ j n i, j < n → i + j < 36 → f_X0_ofDouble_b54 k p1 n (gb c (-52 - (j : Int))) (Int64.ofNat (X + j)) (Int32.ofNat i) = some (Int64.ofNat (4503599627370496 * X + (c - 4503599627370496))) := by
  intro j
  induction j with
  | zero =>
    intro n i hn hi
    obtain ⟨n, rfl⟩ : ∃ m, n = m + 1 := ⟨n - 1, by omega⟩
    rw [f_X0_ofDouble_b54, if_neg (n_l100 (by omega)), zl_e]
    have hg := dcmp_ge (c := c) (d := 4503599627370496) (q := -52) (r := -52) h' (by omega) (by omega) h (by omega) (by omega) (by omega) (by omega) (by omega)
    rw [← dc1] at hg
    have := cv_ge .g hg
    rw [i_lt] at this
    rw [show (-52 : Int) - ((0 : Nat) : Int) = -52 by omega, if_pos (by rw [i_le]; exact Int.not_lt.mp this)]
    exact d_end h h' (by omega)
  | succ j ih =>
    intro n i hn hi
    obtain ⟨n, rfl⟩ : ∃ m, n = m + 1 := ⟨n - 1, by omega⟩
    rw [f_X0_ofDouble_b54, if_neg (n_l100 (by omega)), zl_e]
    have hg := dcmp_lt (c := c) (d := 4503599627370496) (q := -52 - ((j + 1 : Nat) : Int)) (r := -52) h' (by omega) (by omega) h (by omega) (by omega) (by omega) (by omega) (by omega)
    rw [← dc1] at hg
    rw [hg, cv_lt, if_neg (by decide), (gb_half h' (by omega) (by omega)).2.2, z64_gb h' (by omega) (by omega), zg_true]
    simp only [zl_e]
    rw [show X + (j + 1) = (X + j) + 1 by omega, l_pred, n_suc, show (-52 : Int) - ((j + 1 : Nat) : Int) + 1 = -52 - (j : Int) by omega]
    exact ih n (i + 1) (by omega) (by omega)
theorem d_b18 {k : Nat} {p1 : UInt64} {c : Nat} (hk : 25 ≤ k) (h : 4503599627370496 ≤ c) (h' : c < 9007199254740992) : ∀ j n i X, j < n → i + j < 36 → X + j < 1100 → f_X0_ofDouble_b18 k p1 n (gb c (-52 + (j : Int))) (Int64.ofNat X) (Int32.ofNat i) = some (Int64.ofNat (4503599627370496 * (X + j) + (c - 4503599627370496))) := by
  intro j
  induction j with
  | zero =>
    intro n i X hn hi hX
    obtain ⟨n, rfl⟩ : ∃ m, n = m + 1 := ⟨n - 1, by omega⟩
    rw [f_X0_ofDouble_b18, if_neg (n_l100 (by omega)), zl_e]
    have hg := dcmp_lt (c := c) (d := 4503599627370496) (q := -52 + ((0 : Nat) : Int)) (r := -51) h' (by omega) (by omega) h (by omega) (by omega) (by omega) (by omega) (by omega)
    rw [← dc2] at hg
    rw [hg, cv_lt, if_pos (by decide)]
    exact d_b54 h h' hX 0 k 0 (by omega) (by omega)
  | succ j ih =>
    intro n i X hn hi hX
    obtain ⟨n, rfl⟩ : ∃ m, n = m + 1 := ⟨n - 1, by omega⟩
    rw [f_X0_ofDouble_b18, if_neg (n_l100 (by omega)), zl_e]
    have hg := dcmp_ge (c := c) (d := 4503599627370496) (q := -52 + ((j + 1 : Nat) : Int)) (r := -51) h' (by omega) (by omega) h (by omega) (by omega) (by omega) (by omega) (by omega)
    rw [← dc2] at hg
    rw [if_neg (cv_ge .l hg), (gb_half h' (by omega) (by omega)).1, z64_gb h' (by omega) (by omega), zg_true]
    simp only [zl_e]
    rw [l_suc, n_suc, show (-52 : Int) + ((j + 1 : Nat) : Int) - 1 = -52 + (j : Int) by omega, ih n (i + 1) (X + 1) (by omega) (by omega) (by omega), show X + 1 + j = X + (j + 1) by omega]
theorem d_b18' {k : Nat} {p1 : UInt64} {c X j : Nat} (hk : 100 ≤ k) (h : 4503599627370496 ≤ c) (h' : c < 9007199254740992) (hX : X < 1100) (hj : j < 36) : f_X0_ofDouble_b18 k p1 k (gb c (-52 - (j : Int))) (Int64.ofNat (X + j)) 0 = some (Int64.ofNat (4503599627370496 * X + (c - 4503599627370496))) := by
  obtain ⟨n, hn⟩ : ∃ m, k = m + 1 := ⟨k - 1, by omega⟩
  have e : f_X0_ofDouble_b18 k p1 (n + 1) (gb c (-52 - (j : Int))) (Int64.ofNat (X + j)) 0 = f_X0_ofDouble_b54 k p1 k (gb c (-52 - (j : Int))) (Int64.ofNat (X + j)) 0 := by
    rw [f_X0_ofDouble_b18, if_neg (by decide), zl_e]
    have hg := dcmp_lt (c := c) (d := 4503599627370496) (q := -52 - (j : Int)) (r := -51) h' (by omega) (by omega) h (by omega) (by omega) (by omega) (by omega) (by omega)
    rw [← dc2] at hg
    rw [hg, cv_lt, if_pos (by decide)]
  rw [← hn] at e
  rw [e]
  exact d_b54 h h' hX j k 0 (by omega) (by omega)
theorem m_b37 {k : Nat} {p1 : UInt64} {c : Nat} (h : 4503599627370496 ≤ c) (h' : c < 9007199254740992) : ∀ j n X, j < n → j < 36 → f_X8_bitsOf_b37 k p1 n (Int64.ofNat X) (gb c (-52 + (j : Int))) = some (Int64.ofNat (4503599627370496 * (X + j) + (c - 4503599627370496))) := by
  intro j
  induction j with
  | zero =>
    intro n X hn hj
    obtain ⟨n, rfl⟩ : ∃ m, n = m + 1 := ⟨n - 1, by omega⟩
    rw [f_X8_bitsOf_b37, zl_e]
    have hg := dcmp_lt (c := c) (d := 4503599627370496) (q := -52 + ((0 : Nat) : Int)) (r := -51) h' (by omega) (by omega) h (by omega) (by omega) (by omega) (by omega) (by omega)
    rw [← dc2] at hg
    obtain ⟨a, b, d⟩ := gb_frac h h'
    rw [hg, cv_lt, if_pos (by decide), zl_e, show (-52 : Int) + ((0 : Nat) : Int) = -52 by omega, a, zg_true, zl_e, b, zg_true]
    simp only [zl_e]
    rw [d, show (4503599627370496 : Int64) = Int64.ofNat 4503599627370496 from rfl, ← Int64.ofNat_mul, ← Int64.ofNat_add, Nat.mul_comm]
    rfl
  | succ j ih =>
    intro n X hn hj
    obtain ⟨n, rfl⟩ : ∃ m, n = m + 1 := ⟨n - 1, by omega⟩
    rw [f_X8_bitsOf_b37, zl_e]
    have hg := dcmp_ge (c := c) (d := 4503599627370496) (q := -52 + ((j + 1 : Nat) : Int)) (r := -51) h' (by omega) (by omega) h (by omega) (by omega) (by omega) (by omega) (by omega)
    rw [← dc2] at hg
    rw [if_neg (cv_ge .l hg), (gb_half h' (by omega) (by omega)).2.1, z64_gb h' (by omega) (by omega), zg_true]
    simp only [zl_e]
    rw [l_suc, show (-52 : Int) + ((j + 1 : Nat) : Int) - 1 = -52 + (j : Int) by omega, ih n (X + 1) (by omega) (by omega), show X + 1 + j = X + (j + 1) by omega]
theorem m_b15 {k : Nat} {p1 : UInt64} {c X : Nat} (hk : 25 ≤ k) (h : 4503599627370496 ≤ c) (h' : c < 9007199254740992) : ∀ j n, j < n → j < 36 → f_X8_bitsOf_b15 k p1 n (Int64.ofNat (X + j)) (gb c (-52 - (j : Int))) = some (Int64.ofNat (4503599627370496 * X + (c - 4503599627370496))) := by
  intro j
  induction j with
  | zero =>
    intro n hn _
    obtain ⟨n, rfl⟩ : ∃ m, n = m + 1 := ⟨n - 1, by omega⟩
    rw [f_X8_bitsOf_b15, zl_e]
    have hg := dcmp_ge (c := c) (d := 4503599627370496) (q := -52) (r := -52) h' (by omega) (by omega) h (by omega) (by omega) (by omega) (by omega) (by omega)
    rw [← dc1] at hg
    have := cv_ge .g hg
    rw [i_lt] at this
    rw [show (-52 : Int) - ((0 : Nat) : Int) = -52 by omega, if_pos (by rw [i_le]; exact Int.not_lt.mp this)]
    exact m_b37 h h' 0 k X (by omega) (by omega)
  | succ j ih =>
    intro n hn hj
    obtain ⟨n, rfl⟩ : ∃ m, n = m + 1 := ⟨n - 1, by omega⟩
    rw [f_X8_bitsOf_b15, zl_e]
    have hg := dcmp_lt (c := c) (d := 4503599627370496) (q := -52 - ((j + 1 : Nat) : Int)) (r := -52) h' (by omega) (by omega) h (by omega) (by omega) (by omega) (by omega) (by omega)
    rw [← dc1] at hg
    rw [hg, cv_lt, if_neg (by decide), (gb_half h' (by omega) (by omega)).2.2, z64_gb h' (by omega) (by omega), zg_true]
    simp only [zl_e]
    rw [show X + (j + 1) = (X + j) + 1 by omega, l_pred, show (-52 : Int) - ((j + 1 : Nat) : Int) + 1 = -52 - (j : Int) by omega]
    exact ih n (by omega) (by omega)
theorem m_b15' {k : Nat} {p1 : UInt64} {c X j : Nat} (hk : 100 ≤ k) (h : 4503599627370496 ≤ c) (h' : c < 9007199254740992) (hj : j < 36) : f_X8_bitsOf_b15 k p1 k (Int64.ofNat X) (gb c (-52 + (j : Int))) = some (Int64.ofNat (4503599627370496 * (X + j) + (c - 4503599627370496))) := by
  obtain ⟨n, hn⟩ : ∃ m, k = m + 1 := ⟨k - 1, by omega⟩
  have e : f_X8_bitsOf_b15 k p1 (n + 1) (Int64.ofNat X) (gb c (-52 + (j : Int))) = f_X8_bitsOf_b37 k p1 k (Int64.ofNat X) (gb c (-52 + (j : Int))) := by
    rw [f_X8_bitsOf_b15, zl_e]
    have hg := dcmp_ge (c := c) (d := 4503599627370496) (q := -52 + (j : Int)) (r := -52) h' (by omega) (by omega) h (by omega) (by omega) (by omega) (by omega) (by omega)
    rw [← dc1] at hg
    have := cv_ge .g hg
    rw [i_lt] at this
    rw [if_pos (by rw [i_le]; exact Int.not_lt.mp this)]
  rw [← hn] at e
  rw [e]
  exact m_b37 h h' j k X (by omega) (by omega)
theorem d_bits {k c : Nat} {q : Int} (hk : 100 ≤ k) (h : 4503599627370496 ≤ c) (h' : c < 9007199254740992) (q1 : -80 ≤ q) (q2 : q ≤ -30) : ∃ r, f_X0_ofDouble k (gb c q) = some r ∧ f_X8_bitsOf k (gb c q) = some r := by
  have hg := dcmp_0 (q := q) h h' (by omega) (by omega)
  rw [f_X0_ofDouble, f_X8_bitsOf]
  simp only [zl_e]
  rw [hg, if_pos (by decide), if_neg (by decide)]
  by_cases hs : -52 ≤ q
  · obtain ⟨j, hj⟩ : ∃ j : Nat, q = -52 + (j : Int) := ⟨(q + 52).toNat, by omega⟩
    rw [hj]
    exact ⟨_, d_b18 (by omega) h h' j k 0 1023 (by omega) (by omega) (by omega), m_b15' (X := 1023) hk h h' (by omega)⟩
  · obtain ⟨j, hj⟩ : ∃ j : Nat, q = -52 - (j : Int) := ⟨(-52 - q).toNat, by omega⟩
    rw [hj]
    obtain ⟨X, hX⟩ : ∃ X, 1023 = X + j := ⟨1023 - j, by omega⟩
    have h1 := d_b18' (k := k) (p1 := gb c (-52 - (j : Int))) (c := c) (X := X) (j := j) (by omega) h h' (by omega) (by omega)
    have h2 := m_b15 (k := k) (p1 := gb c (-52 - (j : Int))) (c := c) (X := X) (by omega) h h' j k (by omega) (by omega)
    rw [← hX] at h1 h2
    exact ⟨_, h1, h2⟩
/-- a quotient of small whole numbers -/
theorem d_quot {W B : Nat} (hW : W ≤ 2000000) (hB : B ≤ 24) (h1 : 0 < W) (h2 : 0 < B) : ∃ (c : Nat) (q : Int), 4503599627370496 ≤ c ∧ c < 9007199254740992 ∧ -80 ≤ q ∧ q ≤ -30 ∧ FP.ddiv (FP.i2d (Int32.ofNat W)) (FP.i2d (Int32.ofNat B)) = gb c q := by
  have eq : FP.Core.val64 (FP.ddiv (FP.i2d (Int32.ofNat W)) (FP.i2d (Int32.ofNat B))) = FP.Core.roundRatio FP.Core.b64 false W B 0 := by
    show FP.Core.val64 (FP.Core.ddiv _ _) = _
    rw [gb_i2d (by omega), gb_i2d (by omega), FP.Core.val64_ddiv, gb_val (by omega) (by omega) (by omega), gb_val (by omega) (by omega) (by omega)]
    obtain ⟨q, hq, hc⟩ := cdd_form (n := W) (e := 0) (by omega) (by omega)
    obtain ⟨r, hr, hd⟩ := cdd_form (n := B) (e := 0) (by omega) (by omega)
    rw [hc, hd]
    have p := Nat.two_pow_pos (0 - r).toNat
    have p2 := Nat.mul_pos h2 p
    show (if B * 2 ^ (0 - r).toNat = 0 then _ else FP.Core.roundRatio _ (false != false) _ _ _) = _
    rw [if_neg (by omega)]
    refine FP.Core.roundRatio_congr p2 h2 ?_
    rw [show (q - r - 0).toNat = (q - r).toNat by omega, show (0 - (q - r)).toNat = (r - q).toNat by omega]
    have e1 : 2 ^ (0 - q).toNat * 2 ^ (q - r).toNat = 2 ^ (0 - r).toNat * 2 ^ (r - q).toNat := by rw [pw, pw]; congr 1; omega
    calc W * 2 ^ (0 - q).toNat * B * 2 ^ (q - r).toNat = W * B * (2 ^ (0 - q).toNat * 2 ^ (q - r).toNat) := by ac_rfl
      _ = W * B * (2 ^ (0 - r).toNat * 2 ^ (r - q).toNat) := by rw [e1]
      _ = W * (B * 2 ^ (0 - r).toNat) * 2 ^ (r - q).toNat := by ac_rfl
  obtain ⟨g1, g2, g3, g4⟩ := q_b64
  obtain ⟨Q, hQ⟩ : ∃ Q, Q = FP.Core.quantum FP.Core.b64 W B 0 := ⟨_, rfl⟩
  have b1 := FP.Core.quantum_below (f := FP.Core.b64) h1 h2 0
  have b2 := FP.Core.quantum_not_below (f := FP.Core.b64) h1 h2 0
  have b3 := FP.Core.nearest_units_le (f := FP.Core.b64) h1 h2 0
  rw [← hQ] at b1 b2 b3
  rw [g1, g4] at b2
  rw [g4] at b1 b3
  have below : ∀ x y : Nat, FP.Core.Below W B ((x : Int) - y) ↔ W * 2 ^ y < B * 2 ^ x := FP.Core.below_iff W B
  have lo : -57 ≤ Q := by
    refine Int.not_lt.mp fun hlt => ?_
    have m := FP.Core.below_mono (A := W) (B := B) (show Q - 0 + ((53 : Nat) : Int) ≤ ((0 : Nat) : Int) - ((5 : Nat) : Int) by omega) b1
    rw [below] at m
    omega
  have hi : Q ≤ -31 := by
    refine Int.not_lt.mp fun hlt => ?_
    rcases b2 with b2 | b2
    · omega
    · refine b2 (FP.Core.below_mono (A := W) (B := B) (show ((21 : Nat) : Int) - ((0 : Nat) : Int) ≤ Q - 0 + (((53 : Nat) : Int) - 1) by omega) ?_)
      rw [below]
      omega
  have hge : 4503599627370496 ≤ FP.Core.nearest (FP.Core.unitsNum W 0 Q) (FP.Core.unitsDen B 0 Q) := by
    rcases b2 with b2 | b2
    · omega
    · refine FP.Core.nearest_ge (FP.Core.unitsDen_pos h2 ..) ?_
      have u := FP.Core.units_below W B 0 Q 52
      rw [show (Q - 0 + (((53 : Nat) : Int) - 1)) = Q - 0 + ((52 : Nat) : Int) by omega, ← u] at b2
      rw [show (4503599627370496 : Nat) = 2 ^ 52 from rfl]
      omega
  rw [show (2 : Nat) ^ 53 = 9007199254740992 from rfl] at b3
  have er : FP.Core.roundRatio FP.Core.b64 false W B 0 = FP.Core.settle FP.Core.b64 false (FP.Core.nearest (FP.Core.unitsNum W 0 Q) (FP.Core.unitsDen B 0 Q)) Q := by
    unfold FP.Core.roundRatio FP.Core.roundAt
    rw [if_neg (by omega), ← hQ]
  generalize FP.Core.nearest (FP.Core.unitsNum W 0 Q) (FP.Core.unitsDen B 0 Q) = M at *
  unfold FP.Core.settle FP.Core.bound at er
  rw [g3, g4, g2, show (2 : Nat) ^ 53 = 9007199254740992 from rfl] at er
  by_cases hM : M < 9007199254740992
  · rw [if_pos hM, if_pos (by omega)] at er
    exact ⟨M, Q, hge, hM, by omega, by omega, gb_inj hM (by omega) (by omega) (by rw [eq, er, cdd_n hge hM])⟩
  · rw [if_neg hM, if_pos (by omega)] at er
    exact ⟨4503599627370496, Q + 1, by omega, by omega, by omega, by omega, gb_inj (by omega) (by omega) (by omega) (by rw [eq, er, cdd_n (by omega) (by omega)])⟩
theorem d_quot0 : ∀ B, B < 25 → 0 < B → FP.ddiv (FP.i2d (Int32.ofNat 0)) (FP.i2d (Int32.ofNat B)) = FP.dconst0 := by decide +kernel
/-- the mean's bits -/
theorem d_mean {k W B : Nat} (hk : 100 ≤ k) (hW : W ≤ 2000000) (hB : B ≤ 24) (h2 : 0 < B) : ∃ r, z64 (FP.ddiv (FP.i2d (Int32.ofNat W)) (FP.i2d (Int32.ofNat B))) = true ∧ f_X0_ofDouble k (FP.ddiv (FP.i2d (Int32.ofNat W)) (FP.i2d (Int32.ofNat B))) = some r ∧ f_X8_bitsOf k (FP.ddiv (FP.i2d (Int32.ofNat W)) (FP.i2d (Int32.ofNat B))) = some r := by
  by_cases h0 : W = 0
  · subst h0
    rw [d_quot0 B (by omega) h2]
    exact ⟨0, by decide +kernel, rfl, rfl⟩
  · obtain ⟨c, q, h, h', q1, q2, e⟩ := d_quot hW hB (by omega) h2
    rw [e]
    obtain ⟨r, a, b⟩ := d_bits (k := k) hk h h' q1 q2
    exact ⟨r, z64_gb h' (by omega) (by omega), a, b⟩
