/-! THE CUT AS A STEP -/
theorem stp_cut {k : Nat} {f ms : Nat → Int32} {B O : Nat} (R : Rel f ms B O) (hk : 25 ≤ k) (p1 p2 p3 : Int32) : Step f ms (f_X6_cutBlock k f p1 p2 p3) (f_X8_cuts k ms p1 p2 p3) := by
  have hB := R.c.hB
  have t0 : (0 : Int32).toInt = 0 := by decide
  have t1 : (1 : Int32).toInt = 1 := by decide
  have t2 : (2 : Int32).toInt = 2 := by decide
  rcases j_blk R k p1 with ⟨b, b1, rfl, e1, e2⟩ | ⟨e1, e2⟩
  · have h := R.blk b b1
    have c4 : f (8 + b * 11 + 5) = ms (12 + 10 * b + 4) := h.2.1 4 (by omega) (by omega)
    have c7 : f (8 + b * 11 + 8) = ms (12 + 10 * b + 7) := h.2.1 7 (by omega) (by omega)
    obtain ⟨⟨g0, g1, g2, g3, g4, g5⟩, ⟨s0, s1⟩, -⟩ := R.gen
    by_cases qa : ¬ p2 < 0 ∧ ¬ (2 : Int32) < p2
    · obtain ⟨a, -, a2, rfl⟩ := n_btw (a := 0) (b := 2) (by omega) (by omega) qa
      have n3 : ¬ (3 : Int32) ≤ Int32.ofNat a := fun t => absurd ((n_le (a := 3) (by omega) (by omega)).mp t) (by omega)
      by_cases qs : ¬ p3 < 1 ∧ ¬ (300 : Int32) < p3
      · obtain ⟨v, v1, v2, rfl⟩ := n_btw (a := 1) (b := 300) (by omega) (by omega) qs
        obtain ⟨n, n1, n2, n3'⟩ := h.2.2.1 a (by omega)
        have ca := h.1 a (by omega)
        have x1 : f_X6_cutBlock k f (Int32.ofNat b) (Int32.ofNat a) (Int32.ofNat v) = if ¬ (f 4 = 0 ∧ (f (8 + b * 11 + 5) = 0 ∨ f (8 + b * 11 + 5) = 1) ∧ f (8 + b * 11 + 8) = -6) then some (-5, f) else if (1 : Int32) ≤ f (8 + b * 11 + a) - Int32.ofNat v - f 0 then (if Int32.ofNat (B + 2) ≤ 24 then f_X6_cutBlock_b111 k (Int32.ofNat b) (Int32.ofNat a) (Int32.ofNat v) f (f (8 + b * 11 + a) - Int32.ofNat v - f 0) (if f (8 + b * 11 + 5) = 1 then 1 else 0) else some (-4, f)) else some (-5, f) := by
          rw [f_X6_cutBlock, e1, zb1_some, if_neg n10, if_neg qa.1, if_neg n3, s_size, zb1_some, if_neg (by rw [if_pos qs]; exact n10), s_blk (by omega) (by omega), zb1_some, zl_e, s_cell0, zb1_some, zl_e, s_sawn (by omega), zb1_some, s_cell6, s_blk5 (by omega), R.c.f6]
          simp only [flag, zb1_some, zl_e]
          rw [show Int32.ofNat B + 2 = Int32.ofNat (B + 2) from n_add B 2]
          by_cases w : f (8 + b * 11 + 5) = 1
          · simp only [if_pos w]
          · simp only [if_neg w]
        have x2 : f_X8_cuts k ms (Int32.ofNat b) (Int32.ofNat a) (Int32.ofNat v) = if ¬ (f 4 = 0 ∧ (f (8 + b * 11 + 5) = 0 ∨ f (8 + b * 11 + 5) = 1) ∧ f (8 + b * 11 + 8) = -6) then some (-5, ms) else if (1 : Int32) ≤ f (8 + b * 11 + a) - Int32.ofNat v - f 0 then (if Int32.ofNat (B + 2) ≤ 24 then zb1 (f_X8_part k (upd ms 9 (ms 9 + mw ms b)) (Int32.ofNat b) (Int32.ofNat a) (Int32.ofNat v)) (fun ms18 => zb1 (f_X8_part k ms18 (Int32.ofNat b) (Int32.ofNat a) (f (8 + b * 11 + a) - Int32.ofNat v - f 0)) (fun ms19 => f_X8_cuts_b144 k (Int32.ofNat b) (Int32.ofNat a) (Int32.ofNat v) k (upd ms19 (12 + 10 * b + 4) 4) (Int32.ofNat B) (if f (8 + b * 11 + 5) = 1 then 1 else 0) (Int32.ofNat B))) else some (-4, ms)) else some (-5, ms) := by
          rw [f_X8_cuts, e2, zb1_some, if_neg n10, m_in, zb1_some, if_neg (by rw [if_pos qa]; exact n10), m_size, zb1_some, if_neg (by rw [if_pos qs]; exact n10), m_at, zb1_some, m_rd (by omega) (by omega), zl_e, zl_e, zl_e, m_sawn (by omega), zb1_some, m_isAt (by omega), m_weight (by omega), m_at4, ← ca, ← g0, ← g4, ← c4, ← c7, R.m.m5]
          simp only [flag, zb1_some, zl_e]
          rw [show Int32.ofNat B + 2 = Int32.ofNat (B + 2) from n_add B 2, n_nat (by omega)]
          simp only [m_g (show 12 + 10 * b + 4 < 324 by omega) (show 324 < 2147483648 by omega)]
        by_cases q : f 4 = 0 ∧ (f (8 + b * 11 + 5) = 0 ∨ f (8 + b * 11 + 5) = 1) ∧ f (8 + b * 11 + 8) = -6
        · rw [if_neg (fun t => t q)] at x1 x2
          have er : (f (8 + b * 11 + a) - Int32.ofNat v - f 0).toInt = (n : Int) - v - (f 0).toInt := by
            have : (f (8 + b * 11 + a) - Int32.ofNat v).toInt = (n : Int) - v := by
              rw [n3', i_sub (by rw [i_nat (by omega), i_nat (by omega)]; omega) (by rw [i_nat (by omega), i_nat (by omega)]; omega), i_nat (by omega), i_nat (by omega)]
            rw [i_sub (by rw [this]; omega) (by rw [this]; omega), this]
          by_cases q1 : (1 : Int32) ≤ f (8 + b * 11 + a) - Int32.ofNat v - f 0
          · rw [if_pos q1] at x1 x2
            rw [i_le, t1, er] at q1
            obtain ⟨r, hr⟩ : ∃ r : Nat, f (8 + b * 11 + a) - Int32.ofNat v - f 0 = Int32.ofNat r ∧ 1 ≤ r ∧ r ≤ 300 := ⟨((n : Int) - v - (f 0).toInt).toNat, by rw [i_eq, er, i_nat (by omega)]; omega, by omega, by omega⟩
            by_cases q2 : B + 2 ≤ 24
            · rw [if_pos (show Int32.ofNat (B + 2) ≤ 24 from (n_le (b := 24) (by omega) (by omega)).mpr q2)] at x1 x2
              obtain ⟨F1, F2, M1, M2, M4, d1, d2, d3, d4, d5, R2⟩ := cut_ok (k := k) R hk b1 (show a < 3 by omega) q2 ⟨v1, v2⟩ hr.2 q.2.1 q.2.2 (if f (8 + b * 11 + 5) = 1 then 1 else 0) (Int32.ofNat b) (Int32.ofNat a) (Int32.ofNat v)
              rw [hr.1, f_X6_cutBlock_b111, s_sblk5 (by omega), zb1_some, d1, zb2_some, d2, zb2_some] at x1
              rw [hr.1, d3, zb1_some, d4, zb1_some, d5] at x2
              exact ⟨_, F2, M4, B + 2, O, x1, x2, R2, fun t => absurd t (n_lt0 (by omega))⟩
            · rw [if_neg (show ¬ Int32.ofNat (B + 2) ≤ 24 from fun t => q2 ((n_le (b := 24) (by omega) (by omega)).mp t))] at x1 x2
              exact Step.err R x1 x2
          · rw [if_neg q1] at x1 x2
            exact Step.err R x1 x2
        · rw [if_pos q] at x1 x2
          exact Step.err R x1 x2
      · exact Step.err R (r := -2) (by
          rw [f_X6_cutBlock, e1, zb1_some, if_neg n10, if_neg qa.1, if_neg n3, s_size, zb1_some, if_pos (by rw [if_neg qs])]) (by
          rw [f_X8_cuts, e2, zb1_some, if_neg n10, m_in, zb1_some, if_neg (by rw [if_pos qa]; exact n10), m_size, zb1_some, if_pos (by rw [if_neg qs])])
    · refine Step.err R (r := -2) ?_ (by
        rw [f_X8_cuts, e2, zb1_some, if_neg n10, m_in, zb1_some, if_pos (by rw [if_neg qa])])
      rw [f_X6_cutBlock, e1, zb1_some, if_neg n10]
      by_cases q0 : p2 < 0
      · rw [if_pos q0]
      · have t3 : (3 : Int32).toInt = 3 := by decide
        rw [if_neg q0, if_pos (show (3 : Int32) ≤ p2 from by
          rw [i_le, t3]
          by_cases w : 3 ≤ p2.toInt
          · exact w
          · exact absurd ⟨q0, fun t => by rw [i_lt, t2] at t; omega⟩ qa)]
  · exact Step.err R (r := -1) (by rw [f_X6_cutBlock, e1]; rfl) (by rw [f_X8_cuts, e2]; rfl)
