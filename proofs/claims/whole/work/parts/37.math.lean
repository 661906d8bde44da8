/-! WHAT IS ASKED, ON BOTH SIDES -/
theorem k_surs {f ms : Nat → Int32} {B O o b : Nat} (R : Rel f ms B O) (ho : o < O) (hb : b < B) : mgiv ms o b = zgiv f o b := by
  have h := R.blk b hb
  have g := R.ord o ho
  obtain ⟨⟨g0, g1, g2, g3, g4, g5⟩, -⟩ := R.gen
  have a0 := g.1 0 (by omega)
  have a1 := g.1 1 (by omega)
  have a2 := g.1 2 (by omega)
  have a3 := g.1 3 (by omega)
  have c0 := h.1 0 (by omega)
  have c1 := h.1 1 (by omega)
  have c2 := h.1 2 (by omega)
  have c4 : f (8 + b * 11 + 5) = ms (12 + 10 * b + 4) := h.2.1 4 (by omega) (by omega)
  have c6 : f (8 + b * 11 + 7) = ms (12 + 10 * b + 6) := h.2.1 6 (by omega) (by omega)
  have c7 : f (8 + b * 11 + 8) = ms (12 + 10 * b + 7) := h.2.1 7 (by omega) (by omega)
  have cr := h.2.2.2.2.2.2.1
  rw [c6] at cr
  unfold mgiv mexc zgiv
  rw [a0, a1, a2, a3, c0, c1, c2, c4, c6, c7, g3]
  by_cases q : ms (252 + 6 * o + 3) = 0 ∧ ¬ ms (12 + 10 * b + 4) = 3 ∧ ¬ ms (12 + 10 * b + 4) = 4 ∧ ms (12 + 10 * b + 7) = -6
  · rw [if_pos q]
    rcases cr with cr | cr
    · rw [if_neg (by rw [cr]; decide), if_pos ⟨q.1, q.2.1, q.2.2.1, q.2.2.2, cr⟩]
    · rw [if_pos cr, if_neg (fun r => by rw [cr] at r; exact absurd r.2.2.2.2 (by decide))]
  · rw [if_neg q, if_neg (fun r => q ⟨r.1, r.2.1, r.2.2.1, r.2.2.2.1⟩)]
theorem op_ofOrder {k : Nat} {f ms so : Nat → Int32} {B O : Nat} (R : Rel f ms B O) (hk : 25 ≤ k) (p1 p2 : Int32) : ∃ r s1, f_X7_ofOrder k f p1 p2 = some r ∧ f_X8_ofOrder k ms so p1 p2 = some (r, s1) := by
  have hO := R.c.hO
  have t6 : (6 : Int32).toInt = 6 := by decide
  have t5 : (5 : Int32).toInt = 5 := by decide
  have t0 : (0 : Int32).toInt = 0 := by decide
  rw [f_X7_ofOrder, f_X8_ofOrder]
  rcases j_ord R k p1 with ⟨o, o1, rfl, e1, e2⟩ | ⟨e1, e2⟩
  · rw [e1, e2]
    simp only [zb1_some, m_in]
    rw [if_neg n10, if_neg n10]
    by_cases h0 : p2 < 0
    · have a : ¬ (¬ p2 < 0 ∧ ¬ (5 : Int32) < p2) := fun q => q.1 h0
      rw [if_pos h0, if_neg a, if_pos rfl, if_neg (fun q => by rw [i_lt, q, t6, t0] at h0; omega)]
      exact ⟨-2, so, rfl, rfl⟩
    · rw [if_neg h0]
      by_cases h6 : p2 = 6
      · obtain ⟨s1, e⟩ := m_could (k := k) (so := so) R.m hk (show o < 10 by omega)
        rw [h6, if_pos (by decide), if_pos rfl, s_btg R.c hk (by omega), if_neg (show ¬ (¬ (6 : Int32) < 0 ∧ ¬ (5 : Int32) < 6) by decide), if_pos rfl, if_pos rfl, e, zbs_congr (P := fun b => !decide (mgiv ms o b = -6)) (Q := fun b => !decide (zgiv f o b = -6)) (fun b hb => by rw [k_surs R o1 hb])]
        exact ⟨_, s1, rfl, rfl⟩
      · by_cases h5 : p2 ≤ 6
        · have h5' : ¬ Int32.ofNat 6 ≤ p2 := fun q => h6 (by
            rw [i_eq]
            rw [i_le] at h5 q
            have : (Int32.ofNat 6).toInt = 6 := by decide
            omega)
          obtain ⟨w, w1, rfl⟩ := n_of (n := 6) h0 h5' (by omega)
          have a : ¬ Int32.ofNat w < 0 ∧ ¬ (5 : Int32) < Int32.ofNat w := ⟨h0, fun q => absurd ((n_lt (a := 5) (by omega) (by omega)).mp q) (by omega)⟩
          rw [if_pos h5, if_neg h6, s_ord (by omega) w1, if_pos a, if_neg n10, m_oat]
          simp (disch := omega) only [zl_e, zb1_some, zb2_some, zb3_some, zb4_some, zb5_some, m_g, n_nat, n_suc]
          exact ⟨_, so, rfl, by rw [(R.ord o o1).1 w w1]⟩
        · have a : ¬ (¬ p2 < 0 ∧ ¬ (5 : Int32) < p2) := fun q => q.2 (by rw [i_lt, t5]; rw [i_le, t6] at h5; omega)
          rw [if_neg h5, if_neg a, if_pos rfl, if_neg h6]
          exact ⟨-2, so, rfl, rfl⟩
  · rw [e1, e2]
    exact ⟨-1, so, rfl, rfl⟩
theorem op_why {k : Nat} {f ms : Nat → Int32} {B O : Nat} (R : Rel f ms B O) (hk : 25 ≤ k) (p1 : Int32) : ∃ r, f_X7_why k f p1 = some r ∧ f_X8_why k ms p1 = some r := by
  rw [f_X7_why, f_X8_why]
  rcases j_lor k p1 with ⟨l, l1, rfl, e1, e2⟩ | ⟨e1, e2⟩
  · rw [e1, e2]
    obtain ⟨r, h1, h2⟩ := w_why R.c R.m R.lw R.ll (fun b hb => ((R.blk b hb).2.1 6 (by omega) (by omega)).symm) hk l1
    refine ⟨r, ?_, ?_⟩
    · rw [zb1_some, if_neg n10, h1, zb1_some]
    · rw [zb1_some, if_neg n10, h2, zb1_some]
  · rw [e1, e2]
    exact ⟨-1, rfl, rfl⟩
theorem op_place {k : Nat} {f ms : Nat → Int32} {B O : Nat} (R : Rel f ms B O) (hk : 25 ≤ k) (p1 p2 : Int32) : ∃ r, f_X7_bestPlace k f p1 p2 = some r ∧ f_X8_bestPlace k ms p1 p2 = some r := by
  have hB := R.c.hB
  rw [f_X7_bestPlace, f_X8_bestPlace]
  rcases j_blk R k p1 with ⟨b, b1, rfl, e1, e2⟩ | ⟨e1, e2⟩
  · rw [e1, e2]
    simp only [zb1_some]
    rw [if_neg n10, if_neg n10]
    rcases j_lor k p2 with ⟨l, l1, rfl, e3, e4⟩ | ⟨e3, e4⟩
    · rw [e3, e4]
      simp only [zb1_some]
      have c4 : f (8 + b * 11 + 5) = ms (12 + 10 * b + 4) := (R.blk b b1).2.1 4 (by omega) (by omega)
      rw [if_neg n10, if_neg n10, s_hand (by omega), m_hand (by omega), c4]
      simp only [zb1_some, flag]
      by_cases q : ms (12 + 10 * b + 4) = 0 ∨ ms (12 + 10 * b + 4) = 1
      · rw [if_neg (fun r => r q), if_neg (fun r => r q)]
        obtain ⟨r, h1, h2⟩ := w_place R.c R.m R.lw R.ll R.lm hk l1 b1
        rw [h1, h2]
        exact ⟨r, rfl, rfl⟩
      · rw [if_pos q, if_pos q]
        exact ⟨-5, rfl, rfl⟩
    · rw [e3, e4]
      exact ⟨-1, rfl, rfl⟩
  · rw [e1, e2]
    exact ⟨-1, rfl, rfl⟩
theorem op_bestBlock {k : Nat} {f ms so : Nat → Int32} {B O : Nat} (R : Rel f ms B O) (hk : 25 ≤ k) (p1 : Int32) : ∃ r s1, f_X7_bestBlock k f p1 = some r ∧ f_X8_bestBlock k ms so p1 = some (r, s1) := by
  have hO := R.c.hO
  rw [f_X7_bestBlock, f_X8_bestBlock]
  rcases j_ord R k p1 with ⟨o, o1, rfl, e1, e2⟩ | ⟨e1, e2⟩
  · rw [e1, e2]
    simp only [zb1_some]
    rw [if_neg n10, if_neg n10, s_ord3 (by omega), m_oat3]
    simp (disch := omega) only [zl_e, zb1_some, zb2_some, zb3_some, zb4_some, zb5_some, m_g, n_nat, n_suc]
    rw [(R.ord o o1).1 3 (by omega)]
    by_cases q : ms (252 + 6 * o + 3) = 0
    · rw [if_pos q, if_pos q]
      obtain ⟨r, h1, h2⟩ := s_near (k := k) R.c hk (show o < 10 by omega)
      obtain ⟨r', s1, h1', h2'⟩ := m_best (k := k) (so := so) R.m hk (show o < 10 by omega)
      rw [h1, h1']
      refine ⟨r, s1, rfl, ?_⟩
      rw [Best.uniq (h2.congr (fun b hb => by rw [k_surs R o1 hb]) (fun b hb _ => by rw [k_surs R o1 hb])) h2']
    · rw [if_neg q, if_neg q]
      exact ⟨-5, so, rfl, rfl⟩
  · rw [e1, e2]
    exact ⟨-1, so, rfl, rfl⟩
theorem k_fit {f ms : Nat → Int32} {B O o b a len : Nat} (R : Rel f ms B O) (ho : o < O) (hb : b < B) (ha : a < 3) (hl : len ≤ 300) : zfit f o b a len ↔ mfit ms o b a len := by
  have h := R.blk b hb
  have g := R.ord o ho
  obtain ⟨⟨g0, g1, g2, g3, g4, g5⟩, ⟨s0, s1⟩, -⟩ := R.gen
  have a0 := g.1 0 (by omega)
  have a1 := g.1 1 (by omega)
  have a2 := g.1 2 (by omega)
  have c0 := h.1 0 (by omega)
  have c1 := h.1 1 (by omega)
  have c2 := h.1 2 (by omega)
  have c6 : f (8 + b * 11 + 7) = ms (12 + 10 * b + 6) := h.2.1 6 (by omega) (by omega)
  have e : zlen f o b a len = mlen ms o b a len := by
    unfold zlen mlen
    rw [a0, a1, a2, c0, c1, c2, g3]
  obtain ⟨n, n1, n2, n3⟩ := h.2.2.1 a ha
  have t1 : (1 : Int32).toInt = 1 := by decide
  unfold zfit mfit
  rw [e, c6, h.1 a (by omega), g0]
  rw [g0] at s0 s1
  rw [h.1 a (by omega)] at n3
  have e1 : (ms (12 + 10 * b + a) - Int32.ofNat len).toInt = (ms (12 + 10 * b + a)).toInt - len := by
    rw [i_sub (by rw [n3, i_nat (by omega), i_nat (by omega)]; omega) (by rw [n3, i_nat (by omega), i_nat (by omega)]; omega), i_nat (a := len) (by omega)]
  have e2 : (ms (12 + 10 * b + a) - Int32.ofNat len - ms 0).toInt = (ms (12 + 10 * b + a)).toInt - len - (ms 0).toInt := by
    rw [i_sub (by rw [e1, n3, i_nat (by omega)]; omega) (by rw [e1, n3, i_nat (by omega)]; omega), e1]
  rw [i_lt, e2, t1]
  exact ⟨fun q => ⟨by omega, q.1, q.2.2⟩, fun q => ⟨q.2.1, by omega, q.2.2⟩⟩
theorem op_fit {k : Nat} {f ms so : Nat → Int32} {B O : Nat} (R : Rel f ms B O) (hk : 1000 ≤ k) (p1 p2 p3 : Int32) : ∃ r s1, f_X7_fittingCut k f p1 p2 p3 = some r ∧ f_X8_fittingCut k ms so p1 p2 p3 = some (r, s1) := by
  have hO := R.c.hO
  have hB := R.c.hB
  rw [f_X7_fittingCut, f_X8_fittingCut]
  rcases j_ord R k p1 with ⟨o, o1, rfl, e1, e2⟩ | ⟨e1, e2⟩
  · rw [e1, e2]
    simp only [zb1_some]
    rw [if_neg n10, if_neg n10]
    rcases j_blk R k p2 with ⟨b, b1, rfl, e3, e4⟩ | ⟨e3, e4⟩
    · rw [e3, e4]
      simp only [zb1_some, f_X7_fittingCut_b36]
      have h := R.blk b b1
      obtain ⟨⟨g0, g1, g2, g3, g4, g5⟩, ⟨s0, s1⟩, -⟩ := R.gen
      have c4 : f (8 + b * 11 + 5) = ms (12 + 10 * b + 4) := h.2.1 4 (by omega) (by omega)
      have c7 : f (8 + b * 11 + 8) = ms (12 + 10 * b + 7) := h.2.1 7 (by omega) (by omega)
      rw [if_neg n10, if_neg n10, m_in, s_sawn (by omega), m_sawn (by omega), c4, c7, g4]
      simp only [zb1_some, flag]
      have core : ∀ w : Int32, ∃ r s1, f_X7_fittingCut_b53 k f (Int32.ofNat o) (Int32.ofNat b) w k 0 = some r ∧ f_X8_fittingCut_b44 k ms (Int32.ofNat o) (Int32.ofNat b) w k so 0 = some (r, s1) := fun w => by
        have hw : zsaw f b := ⟨s0, s1, fun a ha => by
          obtain ⟨n, n1, n2, n3⟩ := h.2.2.1 a ha
          rw [n3, i_nat (by omega)]
          omega⟩
        obtain ⟨r, h1, h2⟩ := fc_loop (k := k) (w := w) (by omega) (show o < 10 by omega) (show b < 24 by omega) hw k 0 (by omega) (by omega) (fun j hj => by omega)
        obtain ⟨r', s1, h1', h2'⟩ := m_fc_loop (k := k) (ms := ms) (w := w) (by omega) (show o < 10 by omega) (show b < 24 by omega) k 0 so (by omega) (by omega) (fun j hj => by omega)
        refine ⟨r, s1, h1, ?_⟩
        rw [h2.uniq h2' (fun j hj => k_fit R o1 b1 (by omega) (by omega))]
        exact h1'
      by_cases w0 : p3 = 0
      · rw [if_pos w0, w0, if_neg (show ¬ ¬ (¬ (0 : Int32) < 0 ∧ ¬ (1 : Int32) < 0) by decide)]
        split
        · exact ⟨-5, so, rfl, rfl⟩
        · exact core 0
      · rw [if_neg w0]
        by_cases w1 : p3 = 1
        · rw [if_pos w1, w1, if_neg (show ¬ ¬ (¬ (1 : Int32) < 0 ∧ ¬ (1 : Int32) < 1) by decide)]
          split
          · exact ⟨-5, so, rfl, rfl⟩
          · exact core 1
        · have t0 : (0 : Int32).toInt = 0 := by decide
          have t1 : (1 : Int32).toInt = 1 := by decide
          rw [if_neg w1, if_pos (fun q => by
            rw [i_lt, i_lt, t0, t1] at q
            rw [i_eq, t0] at w0
            rw [i_eq, t1] at w1
            omega)]
          exact ⟨-2, so, rfl, rfl⟩
    · rw [e3, e4]
      exact ⟨-1, so, rfl, rfl⟩
  · rw [e1, e2]
    exact ⟨-1, so, rfl, rfl⟩
theorem op_frost {k : Nat} {f ms : Nat → Int32} {B O : Nat} (R : Rel f ms B O) (hk : 25 ≤ k) : ∃ r, f_X7_ifFrost k f = some r ∧ f_X8_ifFrost k ms = some r := by
  have hB := R.c.hB
  rw [m_frost R.m hk, f_X7_ifFrost, f_X1_blocksForFrost, s_bw5 R.c hk, s_bw6 R.c hk, s_bw7 R.c hk]
  simp only [zb1_some, zl_e]
  rw [b_andnot (by omega), b_and (by omega)]
  refine ⟨_, rfl, ?_⟩
  congr 1
  refine zbs_congr (fun b hb => ?_)
  have h := R.blk b hb
  have c4 : f (8 + b * 11 + 5) = ms (12 + 10 * b + 4) := h.2.1 4 (by omega) (by omega)
  have c5 : f (8 + b * 11 + 6) = ms (12 + 10 * b + 5) := h.2.1 5 (by omega) (by omega)
  have c6 : f (8 + b * 11 + 7) = ms (12 + 10 * b + 6) := h.2.1 6 (by omega) (by omega)
  obtain ⟨n, n1, n2⟩ := h.2.2.2.2.2.1
  rw [c5] at n2
  rw [c4, c5, c6, n2]
  have e : ¬ Int32.ofNat n ≤ 0 ↔ ¬ Int32.ofNat n = 0 := by
    rw [show (0 : Int32) = Int32.ofNat 0 from rfl, n_le (by omega) (by omega), n_inj (by omega) (by omega)]
    omega
  by_cases q1 : ms (12 + 10 * b + 4) = 0 <;> by_cases q2 : Int32.ofNat n = 0 <;> by_cases q3 : ms (12 + 10 * b + 6) = 0 <;> simp [q1, q3, e] <;> first | exact q2 | (rw [q2]; rfl) | skip
