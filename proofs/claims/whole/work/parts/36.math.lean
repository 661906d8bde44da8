/-! THE RELATION OF BOTH STATES -/
def Blk (f ms : Nat → Int32) (O b : Nat) : Prop :=
  (∀ w, w < 4 → f (8 + b * 11 + w) = ms (12 + 10 * b + w)) ∧ (∀ w, 4 ≤ w → w < 10 → f (8 + b * 11 + (w + 1)) = ms (12 + 10 * b + w)) ∧
  (∀ a, a < 3 → ∃ n, 1 ≤ n ∧ n ≤ 300 ∧ f (8 + b * 11 + a) = Int32.ofNat n) ∧ (∃ n, 20 ≤ n ∧ n ≤ 30 ∧ f (8 + b * 11 + 3) = Int32.ofNat n) ∧
  f (8 + b * 11 + 4) = mw ms b ∧ (∃ n, n ≤ 3 ∧ f (8 + b * 11 + 6) = Int32.ofNat n) ∧ (f (8 + b * 11 + 7) = 0 ∨ f (8 + b * 11 + 7) = 1) ∧
  (f (8 + b * 11 + 5) = 2 → ∃ s, s < 15 ∧ f (8 + b * 11 + 9) = Int32.ofNat s) ∧ (¬ f (8 + b * 11 + 5) = 2 → f (8 + b * 11 + 9) = -6) ∧
  (¬ f (8 + b * 11 + 8) = -6 → ¬ f (8 + b * 11 + 5) = 3 → ∃ o, o < O ∧ f (8 + b * 11 + 8) = Int32.ofNat o ∧ f (272 + o * 6 + 3) = 1 ∧ f (272 + o * 6 + 4) = Int32.ofNat b)
def Ord (f ms : Nat → Int32) (B o : Nat) : Prop :=
  (∀ w, w < 6 → f (272 + o * 6 + w) = ms (252 + 6 * o + w)) ∧ (∀ a, a < 3 → ∃ n, 1 ≤ n ∧ n ≤ 300 ∧ f (272 + o * 6 + a) = Int32.ofNat n) ∧ (f (272 + o * 6 + 3) = 1 → ∃ b, b < B ∧ f (272 + o * 6 + 4) = Int32.ofNat b)
def Gen (f ms : Nat → Int32) : Prop :=
  (f 0 = ms 0 ∧ f 1 = ms 1 ∧ f 2 = ms 2 ∧ f 3 = ms 3 ∧ f 4 = ms 7 ∧ f 5 = ms 4) ∧ (0 ≤ (f 0).toInt ∧ (f 0).toInt ≤ 9) ∧ (1 ≤ (f 1).toInt ∧ (f 1).toInt ≤ 99) ∧ (-20 ≤ (f 2).toInt ∧ (f 2).toInt ≤ 0) ∧ (0 ≤ (f 3).toInt ∧ (f 3).toInt ≤ 30) ∧ 0 ≤ (f 5).toInt ∧ (f 5).toInt ≤ 999
def Sums (f ms : Nat → Int32) (B O : Nat) : Prop :=
  ms 8 = zsum (fun b => f (8 + b * 11 + 4)) (fun b => decide (f (8 + b * 11 + 10) = -6)) B ∧
  ms 9 = zsum (fun b => f (8 + b * 11 + 4)) (fun b => decide (f (8 + b * 11 + 10) = -6)) B - zsum (fun b => f (8 + b * 11 + 4)) (fun b => !decide (f (8 + b * 11 + 5) = 4)) B ∧
  ms 10 = zsum (fun b => f (8 + b * 11 + 4)) (fun b => decide (f (8 + b * 11 + 5) = 3)) B ∧
  ms 11 = zsum (fun b => f (272 + b * 6 + 5)) (fun b => decide (f (272 + b * 6 + 3) = 2)) O ∧
  zcnt (fun b => decide (f (8 + b * 11 + 5) = 1)) B ≤ 4
def Rel (f ms : Nat → Int32) (B O : Nat) : Prop :=
  CI f B O ∧ MI ms B O ∧ Gen f ms ∧ Ll f ms ∧ Lm f ∧ (∀ b, b < B → Blk f ms O b) ∧ Uq (fun b => f (8 + b * 11 + 9)) B ∧ (∀ o, o < O → Ord f ms B o) ∧ Sums f ms B O
theorem Rel.c {f ms : Nat → Int32} {B O : Nat} (R : Rel f ms B O) : CI f B O := R.1
theorem Rel.m {f ms : Nat → Int32} {B O : Nat} (R : Rel f ms B O) : MI ms B O := R.2.1
theorem Rel.gen {f ms : Nat → Int32} {B O : Nat} (R : Rel f ms B O) : Gen f ms := R.2.2.1
theorem Rel.ll {f ms : Nat → Int32} {B O : Nat} (R : Rel f ms B O) : Ll f ms := R.2.2.2.1
theorem Rel.lm {f ms : Nat → Int32} {B O : Nat} (R : Rel f ms B O) : Lm f := R.2.2.2.2.1
theorem Rel.blk {f ms : Nat → Int32} {B O : Nat} (R : Rel f ms B O) : ∀ b, b < B → Blk f ms O b := R.2.2.2.2.2.1
theorem Rel.uq {f ms : Nat → Int32} {B O : Nat} (R : Rel f ms B O) : Uq (fun b => f (8 + b * 11 + 9)) B := R.2.2.2.2.2.2.1
theorem Rel.ord {f ms : Nat → Int32} {B O : Nat} (R : Rel f ms B O) : ∀ o, o < O → Ord f ms B o := R.2.2.2.2.2.2.2.1
theorem Rel.sums {f ms : Nat → Int32} {B O : Nat} (R : Rel f ms B O) : Sums f ms B O := R.2.2.2.2.2.2.2.2
theorem w_prod {a b c d : Nat} (ha : a ≤ 300) (hb : b ≤ 300) (hc : c ≤ 300) (hd : d ≤ 30) : Int32.ofNat a * Int32.ofNat b * Int32.ofNat c * Int32.ofNat d / 10000 = Int32.ofNat (a * b * c * d / 10000) ∧ a * b * c * d / 10000 ≤ 81000 := by
  have h1 : a * b ≤ 90000 := Nat.mul_le_mul ha hb
  have h2 : a * b * c ≤ 27000000 := Nat.mul_le_mul h1 hc
  have h3 : a * b * c * d ≤ 810000000 := Nat.mul_le_mul h2 hd
  refine ⟨?_, by omega⟩
  rw [n_mul, n_mul, n_mul, show (10000 : Int32) = Int32.ofNat 10000 from rfl, Int32.ofNat_div (by omega) (by omega)]
theorem Blk.wt {f ms : Nat → Int32} {O b : Nat} (h : Blk f ms O b) : ∃ n, n ≤ 81000 ∧ f (8 + b * 11 + 4) = Int32.ofNat n := by
  obtain ⟨h1, h2, h3, ⟨d, d1, d2, d3⟩, h5, -⟩ := h
  obtain ⟨x, x1, x2, x3⟩ := h3 0 (by omega)
  obtain ⟨y, y1, y2, y3⟩ := h3 1 (by omega)
  obtain ⟨z, z1, z2, z3⟩ := h3 2 (by omega)
  obtain ⟨p, q⟩ := w_prod x2 y2 z2 d2
  refine ⟨x * y * z * d / 10000, q, ?_⟩
  rw [h5, ← p]
  unfold mw
  rw [← h1 0 (by omega), ← h1 1 (by omega), ← h1 2 (by omega), ← h1 3 (by omega), x3, y3, z3, d3]
theorem Rel.lw {f ms : Nat → Int32} {B O : Nat} (R : Rel f ms B O) : Lw f ms B (fun b => (f (8 + b * 11 + 4)).toNatClampNeg) := by
  refine ⟨fun b hb => ?_, R.uq⟩
  have h := R.blk b hb
  obtain ⟨n, n1, n2⟩ := h.wt
  have e : (f (8 + b * 11 + 4)).toNatClampNeg = n := by rw [n2, n_nat (by omega)]
  refine ⟨by show _ = Int32.ofNat (f _).toNatClampNeg; rw [e]; exact n2, by show (f _).toNatClampNeg ≤ _; rw [e]; exact n1, by show mw ms b = Int32.ofNat (f _).toNatClampNeg; rw [e, ← h.2.2.2.2.1]; exact n2, (h.2.1 8 (by omega) (by omega)).symm⟩
/-! which blocks, orders, lorries there are -/
theorem j_in {f ms : Nat → Int32} {n : Nat} {v : Int32} (hn : n ≤ 24) (p : Int32) : (∃ b, b < n ∧ p = Int32.ofNat b ∧ ¬ p < 0 ∧ ¬ Int32.ofNat n ≤ p ∧ ¬ Int32.ofNat n - 1 < p) ∨ ((p < 0 ∨ Int32.ofNat n ≤ p) ∧ (p < 0 ∨ Int32.ofNat n - 1 < p)) := by
  have t1 : (1 : Int32).toInt = 1 := by decide
  have t0 : (0 : Int32).toInt = 0 := by decide
  have e : (Int32.ofNat n - 1).toInt = (n : Int) - 1 := by
    rw [i_sub (by rw [i_nat (by omega), t1]; omega) (by rw [i_nat (by omega), t1]; omega), i_nat (by omega), t1]
  by_cases h0 : p < 0
  · exact .inr ⟨.inl h0, .inl h0⟩
  · by_cases h1 : Int32.ofNat n ≤ p
    · refine .inr ⟨.inr h1, .inr ?_⟩
      rw [i_lt, e]
      rw [i_le, i_nat (by omega)] at h1
      omega
    · obtain ⟨b, b1, b2⟩ := n_of h0 h1 (by omega)
      refine .inl ⟨b, b1, b2, h0, h1, ?_⟩
      rw [i_lt, e, b2, i_nat (by omega)]
      omega
theorem zbo_if {A : Prop} [Decidable A] : zbo (if A then (1 : Int32) else 0) = true := by
  unfold zbo
  by_cases h : A <;> simp [h]
theorem j_blk {f ms : Nat → Int32} {B O : Nat} (R : Rel f ms B O) (k : Nat) (p : Int32) : (∃ b, b < B ∧ p = Int32.ofNat b ∧ f_X5_hasBlock k f p = some 1 ∧ f_X8_isBlock k ms p = some 1) ∨ (f_X5_hasBlock k f p = some 0 ∧ f_X8_isBlock k ms p = some 0) := by
  have hB := R.c.hB
  have e1 : f_X5_hasBlock k f p = if p < 0 then some 0 else if Int32.ofNat B ≤ p then some 0 else some 1 := by
    rw [f_X5_hasBlock, s_cell6, R.c.f6]
    simp only [zb1_some]
  have e2 : f_X8_isBlock k ms p = some (if ¬ p < 0 ∧ ¬ Int32.ofNat B - 1 < p then 1 else 0) := by
    rw [f_X8_isBlock]
    simp only [zl_e, m_in, zb1_some]
    rw [R.m.m5, zbo_if, zg_true]
  rw [e1, e2]
  rcases j_in (f := f) (ms := ms) (v := 0) hB p with ⟨b, b1, b2, h0, h1, h2⟩ | ⟨h1, h2⟩
  · exact .inl ⟨b, b1, b2, by rw [if_neg h0, if_neg h1], by rw [if_pos ⟨h0, h2⟩]⟩
  · refine .inr ⟨?_, ?_⟩
    · by_cases h0 : p < 0
      · rw [if_pos h0]
      · rw [if_neg h0, if_pos (h1.resolve_left h0)]
    · rw [if_neg (fun q => h2.elim q.1 q.2)]
theorem j_ord {f ms : Nat → Int32} {B O : Nat} (R : Rel f ms B O) (k : Nat) (p : Int32) : (∃ b, b < O ∧ p = Int32.ofNat b ∧ f_X5_hasOrder k f p = some 1 ∧ f_X8_isOrder k ms p = some 1) ∨ (f_X5_hasOrder k f p = some 0 ∧ f_X8_isOrder k ms p = some 0) := by
  have hO := R.c.hO
  have e1 : f_X5_hasOrder k f p = if p < 0 then some 0 else if Int32.ofNat O ≤ p then some 0 else some 1 := by
    rw [f_X5_hasOrder, s_cell7, R.c.f7]
    simp only [zb1_some]
  have e2 : f_X8_isOrder k ms p = some (if ¬ p < 0 ∧ ¬ Int32.ofNat O - 1 < p then 1 else 0) := by
    rw [f_X8_isOrder]
    simp only [zl_e, m_in, zb1_some]
    rw [R.m.m6, zbo_if, zg_true]
  rw [e1, e2]
  rcases j_in (f := f) (ms := ms) (v := 0) (show O ≤ 24 by omega) p with ⟨b, b1, b2, h0, h1, h2⟩ | ⟨h1, h2⟩
  · exact .inl ⟨b, b1, b2, by rw [if_neg h0, if_neg h1], by rw [if_pos ⟨h0, h2⟩]⟩
  · refine .inr ⟨?_, ?_⟩
    · by_cases h0 : p < 0
      · rw [if_pos h0]
      · rw [if_neg h0, if_pos (h1.resolve_left h0)]
    · rw [if_neg (fun q => h2.elim q.1 q.2)]
theorem j_lor (k : Nat) (p : Int32) : (∃ b, b < 3 ∧ p = Int32.ofNat b ∧ f_X7_isLorry k p = some 1 ∧ f_X8_isLorry k p = some 1) ∨ (f_X7_isLorry k p = some 0 ∧ f_X8_isLorry k p = some 0) := by
  have e2 : f_X8_isLorry k p = some (if ¬ p < 0 ∧ ¬ (2 : Int32) < p then 1 else 0) := by
    rw [f_X8_isLorry]
    simp only [m_in, zb1_some]
    rw [zbo_if, zg_true]
  rw [f_X7_isLorry, e2]
  have c3 : (3 : Int32) = Int32.ofNat 3 := rfl
  have c2 : (2 : Int32) = Int32.ofNat 3 - 1 := by decide
  rw [c3, c2]
  rcases j_in (f := fun _ => 0) (ms := fun _ => 0) (v := 0) (n := 3) (by omega) p with ⟨b, b1, b2, h0, h1, h2⟩ | ⟨h1, h2⟩
  · exact .inl ⟨b, b1, b2, by rw [if_neg h0, if_neg h1], by rw [if_pos ⟨h0, h2⟩]⟩
  · refine .inr ⟨?_, ?_⟩
    · by_cases h0 : p < 0
      · rw [if_pos h0]
      · rw [if_neg h0, if_pos (h1.resolve_left h0)]
    · rw [if_neg (fun q => h2.elim q.1 q.2)]
/-! what is asked -/
theorem op_of {k : Nat} {f ms : Nat → Int32} {B O : Nat} (R : Rel f ms B O) (p1 p2 : Int32) : ∃ r, f_X7_of k f p1 p2 = some r ∧ f_X8_of k ms p1 p2 = some r := by
  have hB := R.c.hB
  rw [f_X7_of, f_X8_of]
  rcases j_blk R k p1 with ⟨b, b1, rfl, e1, e2⟩ | ⟨e1, e2⟩
  · rw [e1, e2]
    simp only [zb1_some]
    rw [if_neg n10, if_neg n10]
    have h := R.blk b b1
    by_cases h0 : p2 < 0
    · rw [if_pos h0, if_neg (fun q => by rw [q] at h0; exact absurd h0 (by decide)), m_in, m_in]
      have a : ¬ (¬ p2 < 0 ∧ ¬ (3 : Int32) < p2) := fun q => q.1 h0
      have a2 : ¬ (¬ p2 < 5 ∧ ¬ (10 : Int32) < p2) := fun q => q.1 (by rw [i_lt] at h0 ⊢; have : (0 : Int32).toInt = 0 := by decide
                                                                       have : (5 : Int32).toInt = 5 := by decide
                                                                       omega)
      rw [if_neg a, if_neg a2]
      exact ⟨-2, rfl, rfl⟩
    · rw [if_neg h0]
      by_cases h1 : p2 < 11
      · rw [if_pos h1]
        obtain ⟨w, w1, rfl⟩ := n_of (n := 11) h0 (fun q => by rw [i_le] at q; rw [i_lt] at h1; exact absurd h1 (by show ¬ p2.toInt < (Int32.ofNat 11).toInt; omega)) (by omega)
        rw [s_blk (by omega) w1]
        refine ⟨_, rfl, ?_⟩
        by_cases c1 : w = 4
        · subst c1
          rw [if_pos (by decide), m_weight (by omega), zb1_some, h.2.2.2.2.1]
        · rw [if_neg (show ¬ Int32.ofNat w = 4 from fun q => c1 ((n_inj (b := 4) (by omega) (by omega)).mp q)), m_in, m_in]
          by_cases c2 : w < 4
          · have a : ¬ Int32.ofNat w < 0 ∧ ¬ (3 : Int32) < Int32.ofNat w := ⟨h0, fun q => absurd ((n_lt (a := 3) (by omega) (by omega)).mp q) (by omega)⟩
            rw [if_pos a]
            simp only [zb1_some]
            rw [if_neg n10, m_at, zb1_some]
            simp (disch := omega) only [zl_e, zb1_some, zb2_some, zb3_some, zb4_some, zb5_some, m_g, n_nat, n_suc]
            rw [h.1 w c2]
          · have a : ¬ (¬ Int32.ofNat w < 0 ∧ ¬ (3 : Int32) < Int32.ofNat w) := fun q => q.2 ((n_lt (a := 3) (by omega) (by omega)).mpr (by omega))
            have a2 : ¬ Int32.ofNat w < 5 ∧ ¬ (10 : Int32) < Int32.ofNat w := ⟨fun q => absurd ((n_lt (b := 5) (by omega) (by omega)).mp q) (by omega), fun q => absurd ((n_lt (a := 10) (by omega) (by omega)).mp q) (by omega)⟩
            rw [if_neg a, if_pos a2]
            simp only [zb1_some]
            rw [if_pos trivial, if_neg n10, zl_e, show Int32.ofNat w - 1 = Int32.ofNat (w - 1) from n_sub (b := 1) (by omega), m_at, zb1_some]
            simp (disch := omega) only [zl_e, zb1_some, zb2_some, zb3_some, zb4_some, zb5_some, m_g, n_nat, n_suc]
            have := h.2.1 (w - 1) (by omega) (by omega)
            rw [show w - 1 + 1 = w by omega] at this
            rw [this]
      · rw [if_neg h1, m_in, m_in]
        have t11 : (11 : Int32).toInt = 11 := by decide
        have t10 : (10 : Int32).toInt = 10 := by decide
        have t3 : (3 : Int32).toInt = 3 := by decide
        have t4 : (4 : Int32).toInt = 4 := by decide
        rw [i_lt, t11] at h1
        rw [if_neg (fun q => by rw [q, t4] at h1; omega)]
        have a : ¬ (¬ p2 < 0 ∧ ¬ (3 : Int32) < p2) := fun q => q.2 (by rw [i_lt, t3]; omega)
        have a2 : ¬ (¬ p2 < 5 ∧ ¬ (10 : Int32) < p2) := fun q => q.2 (by rw [i_lt, t10]; omega)
        rw [if_neg a, if_neg a2]
        exact ⟨-2, rfl, rfl⟩
  · rw [e1, e2]
    exact ⟨-1, rfl, rfl⟩
