/-! COUNTS, LORRIES, THE MEAN -/
theorem op_ofLorry {k : Nat} {f ms : Nat → Int32} {B O : Nat} (R : Rel f ms B O) (hk : 100 ≤ k) (p1 p2 : Int32) : ∃ r, f_X7_ofLorry k f p1 p2 = some r ∧ f_X8_ofLorry k ms p1 p2 = some r := by
  have hB := R.c.hB
  rw [f_X7_ofLorry, f_X8_ofLorry]
  rcases j_lor k p1 with ⟨l, l1, rfl, e1, e2⟩ | ⟨e1, e2⟩
  · rw [e1, e2]
    simp only [zb1_some]
    rw [if_neg n10, if_neg n10]
    obtain ⟨Nf, Nr, h1, h2, h3, h4, h5, h6⟩ := ax_now (k := k) R.c R.m R.lw (by omega) l1
    have w : ∀ n, n < 4 → f_X8_ofLorry_b87 k ms (Int32.ofNat l) (Int32.ofNat (n + 4)) = some (ms (312 + 4 * l + n)) := fun n hn => by
      rw [f_X8_ofLorry_b87, zl_e, show Int32.ofNat (n + 4) - 4 = Int32.ofNat n from (n_sub (a := n + 4) (b := 4) (by omega)).trans (by rw [Nat.add_sub_cancel]), m_lat]
      simp (disch := omega) only [zl_e, zb1_some, zb2_some, zb3_some, zb4_some, zb5_some, m_g, n_nat, n_suc]
    by_cases q0 : p2 = 0
    · rw [if_pos q0, if_pos q0, s_load R.c (by omega), m_load R.m (by omega) l1 R.lw.um]
      simp only [zb1_some]
      refine ⟨_, rfl, ?_⟩
      rw [zsum_congr (R.lw.on l) (fun b hb _ => by rw [(R.lw.1 b hb).2.2.1, ← (R.lw.1 b hb).1])]
    rw [if_neg q0, if_neg q0]
    by_cases q1 : p2 = 1
    · rw [if_pos q1, if_pos q1, h3, f_X8_ofLorry_b62, q1, if_neg (by decide), f_X8_ofLorry_b74, h4]
      obtain ⟨r, r1, r2⟩ := f_bits hk h1
      simp only [zb1_some]
      rw [r1, r2]
      exact ⟨r, rfl, rfl⟩
    rw [if_neg q1, if_neg q1]
    by_cases q2 : p2 = 2
    · rw [if_pos q2, if_pos q2, h5, f_X8_ofLorry_b62, q2, if_pos rfl, f_X8_ofLorry_b74, h6]
      obtain ⟨r, r1, r2⟩ := f_bits hk h2
      simp only [zb1_some]
      rw [r1, r2]
      exact ⟨r, rfl, rfl⟩
    rw [if_neg q2, if_neg q2]
    by_cases q3 : p2 = 3
    · rw [if_pos q3, if_pos q3, s_on R.c (by omega), m_on R.m (by omega) l1 R.lw.um]
      simp only [zb1_some]
      refine ⟨_, rfl, ?_⟩
      rw [zbs_congr (R.lw.on l)]
    rw [if_neg q3, if_neg q3]
    by_cases q4 : p2 = 4
    · rw [if_pos q4, if_pos q4, s_lor0 l1, q4, show (4 : Int32) = Int32.ofNat (0 + 4) from rfl, w 0 (by omega), R.ll l l1 0 (by omega)]
      exact ⟨_, rfl, rfl⟩
    rw [if_neg q4, if_neg q4]
    by_cases q5 : p2 = 5
    · rw [if_pos q5, if_pos q5, s_lor1 l1, q5, show (5 : Int32) = Int32.ofNat (1 + 4) from rfl, w 1 (by omega), R.ll l l1 1 (by omega)]
      exact ⟨_, rfl, rfl⟩
    rw [if_neg q5, if_neg q5]
    by_cases q6 : p2 = 6
    · rw [if_pos q6, if_pos q6, s_lor2 l1, q6, show (6 : Int32) = Int32.ofNat (2 + 4) from rfl, w 2 (by omega), R.ll l l1 2 (by omega)]
      exact ⟨_, rfl, rfl⟩
    rw [if_neg q6, if_neg q6]
    by_cases q7 : p2 = 7
    · rw [if_pos q7, if_pos q7, s_lor3 l1, q7, show (7 : Int32) = Int32.ofNat (3 + 4) from rfl, w 3 (by omega), R.ll l l1 3 (by omega)]
      exact ⟨_, rfl, rfl⟩
    rw [if_neg q7, if_neg q7]
    exact ⟨-2, rfl, rfl⟩
  · rw [e1, e2]
    exact ⟨-1, rfl, rfl⟩
theorem op_count {k : Nat} {f ms : Nat → Int32} {B O : Nat} (R : Rel f ms B O) (hk : 100 ≤ k) (kp ln p1 : Int32) : ∃ r, f_X7_count k f kp ln p1 = some r ∧ f_X8_count k ms kp ln p1 = some r := by
  have hB := R.c.hB
  obtain ⟨⟨g0, g1, g2, g3, g4, g5⟩, -⟩ := R.gen
  obtain ⟨s8, s9, s10, s11, -⟩ := R.sums
  have fl : ∀ b, b < B → f (8 + b * 11 + 5) = ms (12 + 10 * b + 4) := fun b hb => (R.blk b hb).2.1 4 (by omega) (by omega)
  have fc : ∀ b, b < B → f (8 + b * 11 + 7) = ms (12 + 10 * b + 6) := fun b hb => (R.blk b hb).2.1 6 (by omega) (by omega)
  have fw : ∀ b, b < B → f (8 + b * 11 + 4) = mw ms b := fun b hb => (R.blk b hb).2.2.2.2.1
  rw [f_X7_count, f_X8_count]
  by_cases q0 : p1 = 0
  · rw [if_pos q0, if_pos q0, s_cell5, f_X8_count_b84, q0]
    exact ⟨_, rfl, by rw [g5]; rfl⟩
  rw [if_neg q0, if_neg q0]
  by_cases q1 : p1 = 1
  · rw [if_pos q1, if_pos q1, s_cell6, f_X8_count_b84, q1]
    exact ⟨_, rfl, by rw [R.c.f6, ← R.m.m5]; rfl⟩
  rw [if_neg q1, if_neg q1]
  by_cases q2 : p1 = 2
  · rw [if_pos q2, if_pos q2, s_cell7, f_X8_count_b84, q2]
    exact ⟨_, rfl, by rw [R.c.f7, ← R.m.m6]; rfl⟩
  rw [if_neg q2, if_neg q2]
  by_cases q3 : p1 = 3
  · rw [if_pos q3, if_pos q3, s_cell4, f_X8_count_b84, q3]
    exact ⟨_, rfl, by rw [g4]; rfl⟩
  rw [if_neg q3, if_neg q3]
  by_cases q4 : p1 = 4
  · rw [if_pos q4, if_pos q4, s_bw5 R.c (by omega), f_X8_count_b93, q4, if_neg (by decide), f_X8_count_b104, m_roofs R.m (by omega)]
    simp only [zb1_some]
    refine ⟨_, rfl, ?_⟩
    rw [zbs_congr (P := fun b => decide (ms (12 + 10 * b + 4) = 1)) (Q := fun b => decide (f (8 + b * 11 + 5) = 1)) (fun b hb => by rw [fl b hb])]
  rw [if_neg q4, if_neg q4]
  by_cases q5 : p1 = 5
  · rw [if_pos q5, if_pos q5, s_bw7 R.c (by omega), s_uncut R.c (by omega), f_X8_count_b93, q5, if_pos rfl, f_X8_count_b104, m_cracks R.m (by omega)]
    simp only [zb1_some, zl_e]
    rw [b_and (by omega)]
    refine ⟨_, rfl, ?_⟩
    rw [zbs_congr (P := fun b => decide (ms (12 + 10 * b + 6) = 1) && !decide (ms (12 + 10 * b + 4) = 4)) (Q := fun b => decide (f (8 + b * 11 + 7) = 1) && !decide (f (8 + b * 11 + 5) = 4)) (fun b hb => by rw [fl b hb, fc b hb])]
  rw [if_neg q5, if_neg q5]
  by_cases q6 : p1 = 6
  · rw [if_pos q6, if_pos q6, s_quarried R.c (by omega)]
    exact ⟨_, rfl, by rw [← s8]; rfl⟩
  rw [if_neg q6, if_neg q6]
  by_cases q7 : p1 = 7
  · rw [if_pos q7, if_pos q7, s_uncutW R.c (by omega), m_uncutW R.m (by omega)]
    simp only [zb1_some]
    refine ⟨_, rfl, ?_⟩
    rw [zsum_congr (fun b hb => by rw [fl b hb]) (fun b hb _ => fw b hb)]
  rw [if_neg q7, if_neg q7]
  by_cases q8 : p1 = 8
  · rw [if_pos q8, if_pos q8, s_lost R.c (by omega), f_X8_count_b122, q8]
    exact ⟨_, rfl, by rw [← s9]; rfl⟩
  rw [if_neg q8, if_neg q8]
  by_cases q9 : p1 = 9
  · rw [if_pos q9, if_pos q9, s_bw5 R.c (by omega), zb1_some, s_wof R.c (by omega), f_X8_count_b122, q9]
    exact ⟨_, rfl, by rw [← s10]; rfl⟩
  rw [if_neg q9, if_neg q9]
  by_cases q10 : p1 = 10
  · rw [if_pos q10, if_pos q10, s_invs R.c (by omega), f_X8_count_b122, q10]
    exact ⟨_, rfl, by rw [← s11]; rfl⟩
  rw [if_neg q10, if_neg q10]
  by_cases q11 : p1 = 11
  · rw [if_pos q11, if_pos q11, s_cell1]
    exact ⟨_, rfl, by rw [g1]; rfl⟩
  rw [if_neg q11, if_neg q11]
  by_cases q12 : p1 = 12
  · rw [if_pos q12, if_pos q12, s_cell0]
    exact ⟨_, rfl, by rw [g0]; rfl⟩
  rw [if_neg q12, if_neg q12]
  by_cases q13 : p1 = 13
  · rw [if_pos q13, if_pos q13, s_cell2]
    exact ⟨_, rfl, by rw [g2]; rfl⟩
  rw [if_neg q13, if_neg q13]
  by_cases q14 : p1 = 14
  · rw [if_pos q14, if_pos q14, s_cell3]
    exact ⟨_, rfl, by rw [g3]; rfl⟩
  rw [if_neg q14, if_neg q14]
  by_cases q15 : p1 = 15
  · rw [if_pos q15, if_pos q15]
    exact ⟨ln, rfl, rfl⟩
  rw [if_neg q15, if_neg q15]
  by_cases q16 : p1 = 16
  · rw [if_pos q16, if_pos q16]
    exact ⟨kp, rfl, rfl⟩
  rw [if_neg q16, if_neg q16]
  exact ⟨-2, rfl, rfl⟩
theorem op_mean {k : Nat} {f ms : Nat → Int32} {B O : Nat} (R : Rel f ms B O) (hk : 100 ≤ k) : ∃ r, f_X7_meanWeight k f = some r ∧ f_X8_meanWeight k ms = some r := by
  have hB := R.c.hB
  have fl : ∀ b, b < B → f (8 + b * 11 + 5) = ms (12 + 10 * b + 4) := fun b hb => (R.blk b hb).2.1 4 (by omega) (by omega)
  have fw : ∀ b, b < B → f (8 + b * 11 + 4) = mw ms b := fun b hb => (R.blk b hb).2.2.2.2.1
  have e1 : zcnt (fun b => !decide (ms (12 + 10 * b + 4) = 4)) B = zcnt (fun b => !decide (f (8 + b * 11 + 5) = 4)) B := zcnt_congr (fun b hb => by rw [fl b hb])
  have e2 : zsum (mw ms) (fun b => !decide (ms (12 + 10 * b + 4) = 4)) B = zsum (fun b => f (8 + b * 11 + 4)) (fun b => !decide (f (8 + b * 11 + 5) = 4)) B := zsum_congr (fun b hb => by rw [fl b hb]) (fun b hb _ => (fw b hb).symm)
  rw [f_X7_meanWeight, f_X8_meanWeight, s_uncut R.c (by omega), zb1_some, s_pop hB, m_many R.m (by omega), s_uncutW R.c (by omega), m_uncutW R.m (by omega), e1, e2]
  simp only [zb1_some, zl_e]
  have e3 := zsum_nat (w := fun b => f (8 + b * 11 + 4)) (W := fun b => (f (8 + b * 11 + 4)).toNatClampNeg) (P := fun b => !decide (f (8 + b * 11 + 5) = 4)) B (fun b hb _ => (R.lw.1 b hb).1)
  have e4 := nsum_le (W := fun b => (f (8 + b * 11 + 4)).toNatClampNeg) (P := fun b => !decide (f (8 + b * 11 + 5) = 4)) (M := 81000) B (fun b hb => (R.lw.1 b hb).2.1)
  have e5 : B * 81000 ≤ 24 * 81000 := Nat.mul_le_mul_right _ hB
  have e6 := zcnt_le (P := fun b => !decide (f (8 + b * 11 + 5) = 4)) B
  rw [e3]
  generalize nsum (fun b => (f (8 + b * 11 + 4)).toNatClampNeg) (fun b => !decide (f (8 + b * 11 + 5) = 4)) B = N at *
  generalize zcnt (fun b => !decide (f (8 + b * 11 + 5) = 4)) B = C at *
  by_cases h : C = 0
  · subst h
    exact ⟨0, rfl, rfl⟩
  · have hc : ¬ Int32.ofNat C = 0 := fun q => h ((n_inj (b := 0) (by omega) (by omega)).mp q)
    rw [if_neg hc, if_neg hc]
    obtain ⟨r, z, r1, r2⟩ := d_mean (k := k) (W := N) (B := C) hk (by omega) (by omega) (by omega)
    rw [z, zg_true, zg_true, r1, r2]
    exact ⟨r, rfl, rfl⟩
