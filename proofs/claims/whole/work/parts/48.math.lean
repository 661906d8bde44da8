/-! THE CUT: BOTH SIDES STEP -/
theorem cut_ok {k b a v r B O : Nat} {f ms : Nat → Int32} (R : Rel f ms B O) (hk : 25 ≤ k) (hb : b < B) (ha : a < 3) (hB2 : B + 2 ≤ 24) (hv : 1 ≤ v ∧ v ≤ 300) (hr : 1 ≤ r ∧ r ≤ 300) (h5 : f (8 + b * 11 + 5) = 0 ∨ f (8 + b * 11 + 5) = 1) (h8 : f (8 + b * 11 + 8) = -6) (y0 p1 p2 p3 : Int32) :
    ∃ F1 F2 M1 M2 M4, f_X6_addPiece k (upd f (8 + b * 11 + 5) 4) (Int32.ofNat b) (Int32.ofNat a) (Int32.ofNat v) y0 = some (Int32.ofNat B, F1) ∧ f_X6_addPiece k F1 (Int32.ofNat b) (Int32.ofNat a) (Int32.ofNat r) y0 = some (Int32.ofNat (B + 1), F2) ∧
      f_X8_part k (upd ms 9 (ms 9 + mw ms b)) (Int32.ofNat b) (Int32.ofNat a) (Int32.ofNat v) = some M1 ∧ f_X8_part k M1 (Int32.ofNat b) (Int32.ofNat a) (Int32.ofNat r) = some M2 ∧
      f_X8_cuts_b144 k p1 p2 p3 k (upd M2 (12 + 10 * b + 4) 4) (Int32.ofNat B) y0 (Int32.ofNat B) = some (Int32.ofNat B, M4) ∧ Rel F2 M4 (B + 2) O := by
  obtain ⟨f0, hf0⟩ : ∃ f0, f0 = upd f (8 + b * 11 + 5) 4 := ⟨_, rfl⟩
  obtain ⟨m9, hm9⟩ : ∃ m9, m9 = upd ms 9 (ms 9 + mw ms b) := ⟨_, rfl⟩
  obtain ⟨n0, hn0⟩ : ∃ n0, n0 = upd m9 (12 + 10 * b + 4) 4 := ⟨_, rfl⟩
  have w5 : f (8 + b * 11 + 4) = mw ms b := (R.blk b hb).2.2.2.2.1
  have R0 : Rel f0 n0 B O := R.cutB hb (fun i hi => by rw [hf0, upd_ne hi]) (fun i h1 h2 => by rw [hn0, upd_ne h1, hm9, upd_ne h2]) (by rw [hf0, upd_at]) (by rw [hn0, upd_at]) (by rw [hn0, upd_ne (by omega), hm9, upd_at, w5]) h5 h8
  have m95 : m9 5 = Int32.ofNat B := by rw [hm9, upd_ne (by omega)]; exact R.m.m5
  obtain ⟨F1, e1, F6, fr, F0', F1', F2', F3', F4', F5', F6', F7', F8', F9', F10'⟩ := s_piece (k := k) (a := a) (len := Int32.ofNat v) (y0 := y0) R0.c hk (by omega) hb ha
  obtain ⟨M1, d1, N5, gr, M0', M1', M2', M3', M4', M5', M6', M7', M8', M9', Ms⟩ := m_part (k := k) (a := a) (len := Int32.ofNat v) hk m95 (by omega) hb ha
  have c1 : CI F1 (B + 1) O := ⟨by omega, R.c.hO, F6, by rw [fr 7 (by omega) (by unfold inB; omega)]; exact R0.c.f7⟩
  obtain ⟨F2, e2, G6, fr2, G0, G1, G2, G3, G4, G5, G6', G7, G8, G9, G10⟩ := s_piece (k := k) (a := a) (len := Int32.ofNat r) (y0 := y0) c1 hk (by omega) (show b < B + 1 by omega) ha
  obtain ⟨M2, d2, P5, gr2, P0, P1, P2, P3, P4, P5', P6, P7, P8, P9, Ps⟩ := m_part (k := k) (a := a) (len := Int32.ofNat r) hk N5 (by omega) (show b < B + 1 by omega) ha
  obtain ⟨M3, hM3⟩ : ∃ M3, M3 = upd M2 (12 + 10 * b + 4) 4 := ⟨_, rfl⟩
  have mi : MI M3 (B + 2) O := ⟨hB2, R.c.hO, by rw [hM3, upd_ne (by omega)]; exact P5, by rw [hM3, upd_ne (by omega), gr2 6 (by omega) (by omega) (by unfold inM; omega), gr 6 (by omega) (by omega) (by unfold inM; omega), hm9, upd_ne (by omega)]; exact R.m.m6⟩
  have b0 : M3 (12 + 10 * B + 4) = 0 := by rw [hM3, upd_ne (by omega), gr2 _ (by omega) (by omega) (by unfold inM; omega)]; exact M4'
  have b1 : M3 (12 + 10 * (B + 1) + 4) = 0 := by rw [hM3, upd_ne (by omega)]; exact P4
  obtain ⟨M4, d3, fr3, v1, v2⟩ := m_cl (k := k) (p1 := p1) (p2 := p2) (p3 := p3) (x6 := y0) hk mi b0 b1
  -- the reference's blocks before B stand as in n0
  have old : ∀ i, i ≠ 5 → i ≠ 9 → ¬ inM B i → ¬ inM (B + 1) i → M4 i = n0 i := fun i i5 i9 i1 i2 => by
    rw [fr3 i (by unfold inM at i1; omega) (by unfold inM at i2; omega), hM3, hn0]
    by_cases q : i = 12 + 10 * b + 4
    · rw [q, upd_at, upd_at]
    · rw [upd_ne q, upd_ne q, gr2 i i5 i9 i2, gr i i5 i9 i1]
  have zc : zcnt (fun b => decide (M3 (12 + 10 * b + 4) = 1)) B = zcnt (fun b => decide (f0 (8 + b * 11 + 5) = 1)) B := zcnt_congr (fun c hc => by
    have q : f0 (8 + c * 11 + 5) = n0 (12 + 10 * c + 4) := (R0.blk c hc).2.1 4 (by omega) (by omega)
    rw [q, ← old _ (by omega) (by omega) (by unfold inM; omega) (by unfold inM; omega), fr3 _ (by omega) (by omega)])
  rw [zc] at v1 v2
  have zc1 : zcnt (fun b => decide (F1 (8 + b * 11 + 5) = 1)) (B + 1) = zcnt (fun b => decide (f0 (8 + b * 11 + 5) = 1)) B + (if ¬ y0 = 0 ∧ zcnt (fun b => decide (f0 (8 + b * 11 + 5) = 1)) B < 4 then 1 else 0) := by
    rw [zcnt, F5', zcnt_congr (P := fun b => decide (F1 (8 + b * 11 + 5) = 1)) (Q := fun b => decide (f0 (8 + b * 11 + 5) = 1)) (fun c hc => by rw [fr _ (by omega) (by unfold inB; omega)])]
    by_cases q : ¬ y0 = 0 ∧ zcnt (fun b => decide (f0 (8 + b * 11 + 5) = 1)) B < 4
    · simp only [if_pos q]
      rfl
    · simp only [if_neg q]
      rfl
  rw [zc1] at G5
  obtain ⟨N1, hN1⟩ : ∃ N1 : Nat → Int32, N1 = fun i => if 12 + 10 * B ≤ i ∧ i < 12 + 10 * B + 10 then M4 i else if i = 5 then Int32.ofNat (B + 1) else if i = 9 then M1 9 else n0 i := ⟨_, rfl⟩
  have Nin : ∀ i, inM B i → N1 i = M4 i := fun i hi => by rw [hN1]; exact if_pos hi
  have Nout : ∀ i, i ≠ 5 → i ≠ 9 → ¬ inM B i → N1 i = n0 i := fun i i5 i9 hi => by rw [hN1]; show (if _ then _ else _) = _; rw [if_neg (show ¬ (12 + 10 * B ≤ i ∧ i < 12 + 10 * B + 10) from hi), if_neg i5, if_neg i9]
  have N15 : N1 5 = Int32.ofNat (B + 1) := by rw [hN1]; show (if _ then _ else _) = _; rw [if_neg (by omega), if_pos rfl]
  have N19 : N1 9 = M1 9 := by rw [hN1]; show (if _ then _ else _) = _; rw [if_neg (by omega), if_neg (by omega), if_pos rfl]
  have M4B : ∀ w, w < 10 → w ≠ 4 → M4 (12 + 10 * B + w) = M1 (12 + 10 * B + w) := fun w w1 w2 => by
    rw [fr3 _ (by omega) (by omega), hM3, upd_ne (by omega), gr2 _ (by omega) (by omega) (by unfold inM; omega)]
  have M4C : ∀ w, w < 10 → w ≠ 4 → M4 (12 + 10 * (B + 1) + w) = M2 (12 + 10 * (B + 1) + w) := fun w w1 w2 => by
    rw [fr3 _ (by omega) (by omega), hM3, upd_ne (by omega)]
  have nm9 : ∀ w, w < 10 → w ≠ 4 → n0 (12 + 10 * b + w) = m9 (12 + 10 * b + w) := fun w w1 w2 => by rw [hn0, upd_ne (by omega)]
  have m1b : ∀ w, w < 10 → M1 (12 + 10 * b + w) = m9 (12 + 10 * b + w) := fun w w1 => gr _ (by omega) (by omega) (by unfold inM; omega)
  have mwB : mw M1 B = F1 (8 + B * 11 + 4) := by
    have h := R0.blk b hb
    unfold mw
    rw [M0', M1', M2', M3', F4', h.1 0 (by omega), h.1 1 (by omega), h.1 2 (by omega), h.1 3 (by omega), nm9 0 (by omega) (by omega), nm9 1 (by omega) (by omega), nm9 2 (by omega) (by omega), nm9 3 (by omega) (by omega)]
  have i1 : ∀ w, w < 10 → N1 (12 + 10 * B + w) = M4 (12 + 10 * B + w) := fun w hw => Nin _ ⟨by omega, by omega⟩
  have v01 : ∀ {A : Prop} [Decidable A], ((if A then (1 : Int32) else 0) = 0 ∨ (if A then (1 : Int32) else 0) = 1) := fun {A} _ => by by_cases q : A <;> simp [q]
  have R1 : Rel F1 N1 (B + 1) O := by
    refine R0.addB (by omega) fr (fun i i5 i8 i9 im => Nout i i5 i9 im) F6 N15 ?_ F9' (by rw [F5']; exact v01) (fun t => ?_) ?_ ?_
    · exact (R0.blk b hb).piece ha hv v01 F0' F1' F2' F3' F4' F5' F6' F7' F8' F9' F10' (by rw [i1 0 (by omega), M4B 0 (by omega) (by omega), nm9 0 (by omega) (by omega)]; exact M0') (by rw [i1 1 (by omega), M4B 1 (by omega) (by omega), nm9 1 (by omega) (by omega)]; exact M1') (by rw [i1 2 (by omega), M4B 2 (by omega) (by omega), nm9 2 (by omega) (by omega)]; exact M2') (by rw [i1 3 (by omega), M4B 3 (by omega) (by omega), nm9 3 (by omega) (by omega)]; exact M3') (by rw [i1 4 (by omega)]; exact v1) (by rw [i1 5 (by omega), M4B 5 (by omega) (by omega), nm9 5 (by omega) (by omega)]; exact M5') (by rw [i1 6 (by omega), M4B 6 (by omega) (by omega), nm9 6 (by omega) (by omega)]; exact M6') (by rw [i1 7 (by omega), M4B 7 (by omega) (by omega)]; exact M7') (by rw [i1 8 (by omega), M4B 8 (by omega) (by omega)]; exact M8') (by rw [i1 9 (by omega), M4B 9 (by omega) (by omega)]; exact M9')
    · rw [F5'] at t
      by_cases q : ¬ y0 = 0 ∧ zcnt (fun b => decide (f0 (8 + b * 11 + 5) = 1)) B < 4
      · exact q.2
      · rw [if_neg q] at t; exact absurd t (by decide)
    · rw [if_neg (by rw [F10']; exact n_neg6 (by omega))]
      exact Nout 8 (by omega) (by omega) (by unfold inM; omega)
    · rw [if_neg (by rw [F10']; exact n_neg6 (by omega)), N19, Ms, mwB, hn0, upd_ne (by omega)]
  have mwC : mw M2 (B + 1) = F2 (8 + (B + 1) * 11 + 4) := by
    have h := R1.blk b (by omega)
    have nb : ∀ w, w < 10 → w ≠ 4 → N1 (12 + 10 * b + w) = m9 (12 + 10 * b + w) := fun w w1 w2 => by rw [Nout _ (by omega) (by omega) (by unfold inM; omega)]; exact nm9 w w1 w2
    unfold mw
    rw [P0, P1, P2, P3, G4, h.1 0 (by omega), h.1 1 (by omega), h.1 2 (by omega), h.1 3 (by omega), nb 0 (by omega) (by omega), nb 1 (by omega) (by omega), nb 2 (by omega) (by omega), nb 3 (by omega) (by omega), m1b 0 (by omega), m1b 1 (by omega), m1b 2 (by omega), m1b 3 (by omega)]
  have nb : ∀ w, w < 10 → w ≠ 4 → N1 (12 + 10 * b + w) = M1 (12 + 10 * b + w) := fun w w1 w2 => by rw [Nout _ (by omega) (by omega) (by unfold inM; omega), m1b w w1]; exact nm9 w w1 w2
  have R2 : Rel F2 M4 (B + 1 + 1) O := by
    refine R1.addB (by omega) fr2 (fun i i5 i8 i9 im => ?_) G6 ?_ ?_ G9 (by rw [G5]; exact v01) (fun t => ?_) ?_ ?_
    · by_cases q : inM B i
      · exact (Nin i q).symm
      · rw [Nout i i5 i9 q]; exact old i i5 i9 q im
    · rw [fr3 5 (by omega) (by omega), hM3, upd_ne (by omega)]; exact P5
    · exact (R1.blk b (by omega)).piece ha hr v01 G0 G1 G2 G3 G4 G5 G6' G7 G8 G9 G10 (by rw [M4C 0 (by omega) (by omega), nb 0 (by omega) (by omega)]; exact P0) (by rw [M4C 1 (by omega) (by omega), nb 1 (by omega) (by omega)]; exact P1) (by rw [M4C 2 (by omega) (by omega), nb 2 (by omega) (by omega)]; exact P2) (by rw [M4C 3 (by omega) (by omega), nb 3 (by omega) (by omega)]; exact P3) v2 (by rw [M4C 5 (by omega) (by omega), nb 5 (by omega) (by omega)]; exact P5') (by rw [M4C 6 (by omega) (by omega), nb 6 (by omega) (by omega)]; exact P6) (by rw [M4C 7 (by omega) (by omega)]; exact P7) (by rw [M4C 8 (by omega) (by omega)]; exact P8) (by rw [M4C 9 (by omega) (by omega)]; exact P9)
    · rw [zc1]
      rw [G5] at t
      by_cases q : ¬ y0 = 0 ∧ zcnt (fun b => decide (f0 (8 + b * 11 + 5) = 1)) B + (if ¬ y0 = 0 ∧ zcnt (fun b => decide (f0 (8 + b * 11 + 5) = 1)) B < 4 then 1 else 0) < 4
      · exact q.2
      · rw [if_neg q] at t; exact absurd t (by decide)
    · rw [if_neg (by rw [G10]; exact n_neg6 (by omega)), old 8 (by omega) (by omega) (by unfold inM; omega) (by unfold inM; omega), Nout 8 (by omega) (by omega) (by unfold inM; omega)]
    · rw [if_neg (by rw [G10]; exact n_neg6 (by omega)), fr3 9 (by omega) (by omega), hM3, upd_ne (by omega), Ps, mwC, N19]
  rw [← hf0, ← hm9]
  rw [hM3] at d3
  exact ⟨F1, F2, M1, M2, M4, e1, e2, d1, d2, d3, R2⟩
