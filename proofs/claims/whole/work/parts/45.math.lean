/-! THE PIECES OF A CUT -/
theorem s_piece {k b a B O : Nat} {f : Nat → Int32} {len y0 : Int32} (c : CI f B O) (hk : 25 ≤ k) (hB : B < 24) (hb : b < B) (ha : a < 3) : ∃ F, f_X6_addPiece k f (Int32.ofNat b) (Int32.ofNat a) len y0 = some (Int32.ofNat B, F) ∧ F 6 = Int32.ofNat (B + 1) ∧ (∀ i, i ≠ 6 → ¬ inB B i → F i = f i) ∧
    F (8 + B * 11 + 0) = (if a = 0 then len else f (8 + b * 11 + 0)) ∧ F (8 + B * 11 + 1) = (if a = 1 then len else f (8 + b * 11 + 1)) ∧ F (8 + B * 11 + 2) = (if a = 2 then len else f (8 + b * 11 + 2)) ∧ F (8 + B * 11 + 3) = f (8 + b * 11 + 3) ∧
    F (8 + B * 11 + 4) = (if a = 0 then len else f (8 + b * 11 + 0)) * (if a = 1 then len else f (8 + b * 11 + 1)) * (if a = 2 then len else f (8 + b * 11 + 2)) * f (8 + b * 11 + 3) / 10000 ∧
    F (8 + B * 11 + 5) = (if ¬ y0 = 0 ∧ zcnt (fun b => decide (f (8 + b * 11 + 5) = 1)) B < 4 then 1 else 0) ∧ F (8 + B * 11 + 6) = f (8 + b * 11 + 6) ∧ F (8 + B * 11 + 7) = f (8 + b * 11 + 7) ∧ F (8 + B * 11 + 8) = -6 ∧ F (8 + B * 11 + 9) = -6 ∧ F (8 + B * 11 + 10) = Int32.ofNat b := by
  obtain ⟨G, e, G6, fr, G0, G1, G2, G3, G4, G5, G6', G7, G8, G9, G10⟩ := s_add (k := k) (O := O) (s0 := if a = 0 then len else f (8 + b * 11 + 0)) (s1 := if a = 1 then len else f (8 + b * 11 + 1)) (s2 := if a = 2 then len else f (8 + b * 11 + 2)) (d := f (8 + b * 11 + 3)) c.f6 hB
  have e1 : f_X6_addPiece k f (Int32.ofNat b) (Int32.ofNat a) len y0 = f_X6_addPiece_b57 k (Int32.ofNat b) (Int32.ofNat a) len y0 f (if a = 0 then len else f (8 + b * 11 + 0)) (if a = 1 then len else f (8 + b * 11 + 1)) (if a = 2 then len else f (8 + b * 11 + 2)) := by
    rw [f_X6_addPiece]
    simp only [f_X6_addPiece_b17, f_X6_addPiece_b37, s_blk0 (show b < 24 by omega), s_blk1 (show b < 24 by omega), s_blk2 (show b < 24 by omega), zb1_some]
    have q : a = 0 ∨ a = 1 ∨ a = 2 := by omega
    rcases q with rfl | rfl | rfl
    · rfl
    · rfl
    · rfl
  have gb : ∀ w, w < 11 → G (8 + b * 11 + w) = f (8 + b * 11 + w) := fun w hw => fr _ (by omega) (by unfold inB; omega)
  have cG : CI G (B + 1) O := ⟨by omega, c.hO, G6, by rw [fr 7 (by omega) (by unfold inB; omega)]; exact c.f7⟩
  have rz : zcnt (fun b => decide (G (8 + b * 11 + 5) = 1)) (B + 1) = zcnt (fun b => decide (f (8 + b * 11 + 5) = 1)) B := by
    rw [zcnt, if_neg (by rw [G5]; decide)]
    exact zcnt_congr (fun i hi => by rw [fr _ (by omega) (by unfold inB; omega)])
  have tl : ∀ H : Nat → Int32, H (8 + b * 11 + 6) = f (8 + b * 11 + 6) → H (8 + b * 11 + 7) = f (8 + b * 11 + 7) → f_X6_addPiece_b106 k (Int32.ofNat b) (Int32.ofNat a) len y0 H (Int32.ofNat B) = some (Int32.ofNat B, upd (upd (upd H (8 + B * 11 + 6) (f (8 + b * 11 + 6))) (8 + B * 11 + 7) (f (8 + b * 11 + 7))) (8 + B * 11 + 10) (Int32.ofNat b)) := fun H h6 h7 => by
    rw [f_X6_addPiece_b106, s_blk6 (by omega), zb1_some, h6, s_sblk6 hB, zb1_some, s_blk7 (by omega), zb1_some, upd_ne (by omega), h7, s_sblk7 hB, zb1_some, s_sblk10 hB, zb1_some]
  rw [e1, f_X6_addPiece_b57, s_blk3 (by omega), zb1_some, e, zb2_some]
  by_cases q : ¬ y0 = 0 ∧ zcnt (fun b => decide (f (8 + b * 11 + 5) = 1)) B < 4
  · refine ⟨_, by
      rw [if_neg q.1, s_roof cG hk, rz, if_pos q.2, zb1_some, if_neg n10, s_sblk5 hB, zb1_some]
      exact tl _ (by rw [upd_ne (by omega)]; exact gb 6 (by omega)) (by rw [upd_ne (by omega)]; exact gb 7 (by omega)), by simp (disch := omega) only [upd_ne, upd_at]; exact G6, fun i i1 i2 => ?_, by simp (disch := omega) only [upd_ne, upd_at]; exact G0, by simp (disch := omega) only [upd_ne, upd_at]; exact G1, by simp (disch := omega) only [upd_ne, upd_at]; exact G2, by simp (disch := omega) only [upd_ne, upd_at]; exact G3, by simp (disch := omega) only [upd_ne, upd_at]; exact G4, by rw [if_pos q]; simp (disch := omega) only [upd_ne, upd_at], by simp (disch := omega) only [upd_ne, upd_at], by simp (disch := omega) only [upd_ne, upd_at], by simp (disch := omega) only [upd_ne, upd_at]; exact G8, by simp (disch := omega) only [upd_ne, upd_at]; exact G9, by simp (disch := omega) only [upd_ne, upd_at]⟩
    have := fr i i1 i2
    unfold inB at i2
    rw [upd_ne (by omega), upd_ne (by omega), upd_ne (by omega), upd_ne (by omega)]
    exact this
  · refine ⟨upd (upd (upd G (8 + B * 11 + 6) (f (8 + b * 11 + 6))) (8 + B * 11 + 7) (f (8 + b * 11 + 7))) (8 + B * 11 + 10) (Int32.ofNat b), ?_, by simp (disch := omega) only [upd_ne, upd_at]; exact G6, fun i i1 i2 => ?_, by simp (disch := omega) only [upd_ne, upd_at]; exact G0, by simp (disch := omega) only [upd_ne, upd_at]; exact G1, by simp (disch := omega) only [upd_ne, upd_at]; exact G2, by simp (disch := omega) only [upd_ne, upd_at]; exact G3, by simp (disch := omega) only [upd_ne, upd_at]; exact G4, by rw [if_neg q]; simp (disch := omega) only [upd_ne, upd_at]; exact G5, by simp (disch := omega) only [upd_ne, upd_at], by simp (disch := omega) only [upd_ne, upd_at], by simp (disch := omega) only [upd_ne, upd_at]; exact G8, by simp (disch := omega) only [upd_ne, upd_at]; exact G9, by simp (disch := omega) only [upd_ne, upd_at]⟩
    · by_cases q0 : y0 = 0
      · rw [if_pos q0]
        exact tl _ (gb 6 (by omega)) (gb 7 (by omega))
      · rw [if_neg q0, s_roof cG hk, rz, if_neg (fun r => q ⟨q0, r⟩), zb1_some, if_pos rfl]
        exact tl _ (gb 6 (by omega)) (gb 7 (by omega))
    · have := fr i i1 i2
      unfold inB at i2
      rw [upd_ne (by omega), upd_ne (by omega), upd_ne (by omega)]
      exact this
theorem m_part_e {k b a B : Nat} {ms N P : Nat → Int32} {len : Int32} (hB : B < 24) (hb : b < B) (ha : a < 3) (e : f_X8_newBlock k ms (ms (12 + 10 * b + 0)) (ms (12 + 10 * b + 1)) (ms (12 + 10 * b + 2)) (ms (12 + 10 * b + 3)) = some (Int32.ofNat B, N)) (nb : ∀ w, w < 10 → N (12 + 10 * b + w) = ms (12 + 10 * b + w)) (hP : P = upd (upd (upd (upd N (12 + 10 * B + a) len) (12 + 10 * B + 5) (ms (12 + 10 * b + 5))) (12 + 10 * B + 6) (ms (12 + 10 * b + 6))) (12 + 10 * B + 9) (Int32.ofNat b)) : f_X8_part k ms (Int32.ofNat b) (Int32.ofNat a) len = some (upd P 9 (P 9 - mw P B)) := by
  have r1 : upd N (12 + 10 * B + a) len (12 + 10 * b + 5) = ms (12 + 10 * b + 5) := by rw [upd_ne (by omega)]; exact nb 5 (by omega)
  have r2 : upd (upd N (12 + 10 * B + a) len) (12 + 10 * B + 5) (ms (12 + 10 * b + 5)) (12 + 10 * b + 6) = ms (12 + 10 * b + 6) := by rw [upd_ne (by omega), upd_ne (by omega)]; exact nb 6 (by omega)
  rw [f_X8_part, m_at0, zb1_some, m_rd (by omega) (by omega), m_at1, zb1_some, m_rd (by omega) (by omega), m_at2, zb1_some, m_rd (by omega) (by omega), m_at3, zb1_some, m_rd (by omega) (by omega), e, zb2_some, m_at, zb1_some, m_wr (by omega) (by omega), m_at5, zb1_some, m_at5, zb1_some, m_rd (by omega) (by omega), r1, m_wr (by omega) (by omega), m_at6, zb1_some, m_at6, zb1_some, m_rd (by omega) (by omega), r2, m_wr (by omega) (by omega), m_at9, zb1_some, m_wr (by omega) (by omega), ← hP, zl_e, m_weight (by omega), zb1_some, zl_e, zl_e]
theorem m_part {k b a B : Nat} {ms : Nat → Int32} {len : Int32} (hk : 25 ≤ k) (h5 : ms 5 = Int32.ofNat B) (hB : B < 24) (hb : b < B) (ha : a < 3) : ∃ M, f_X8_part k ms (Int32.ofNat b) (Int32.ofNat a) len = some M ∧ M 5 = Int32.ofNat (B + 1) ∧ (∀ i, i ≠ 5 → i ≠ 9 → ¬ inM B i → M i = ms i) ∧
    M (12 + 10 * B + 0) = (if a = 0 then len else ms (12 + 10 * b + 0)) ∧ M (12 + 10 * B + 1) = (if a = 1 then len else ms (12 + 10 * b + 1)) ∧ M (12 + 10 * B + 2) = (if a = 2 then len else ms (12 + 10 * b + 2)) ∧ M (12 + 10 * B + 3) = ms (12 + 10 * b + 3) ∧
    M (12 + 10 * B + 4) = 0 ∧ M (12 + 10 * B + 5) = ms (12 + 10 * b + 5) ∧ M (12 + 10 * B + 6) = ms (12 + 10 * b + 6) ∧ M (12 + 10 * B + 7) = -6 ∧ M (12 + 10 * B + 8) = -6 ∧ M (12 + 10 * B + 9) = Int32.ofNat b ∧ M 9 = ms 9 - mw M B := by
  obtain ⟨N, e, N5, gr, N0, N1, N2, N3, N4, N5', N6, N7, N8, N9⟩ := m_new (k := k) (p1 := ms (12 + 10 * b + 0)) (p2 := ms (12 + 10 * b + 1)) (p3 := ms (12 + 10 * b + 2)) (p4 := ms (12 + 10 * b + 3)) hk h5 hB
  have nb : ∀ w, w < 10 → N (12 + 10 * b + w) = ms (12 + 10 * b + w) := fun w hw => gr _ (by omega) (by unfold inM; omega)
  obtain ⟨P, hP⟩ : ∃ P, P = upd (upd (upd (upd N (12 + 10 * B + a) len) (12 + 10 * B + 5) (ms (12 + 10 * b + 5))) (12 + 10 * B + 6) (ms (12 + 10 * b + 6))) (12 + 10 * B + 9) (Int32.ofNat b) := ⟨_, rfl⟩
  have er := m_part_e hB hb ha e nb hP
  have P9 : P 9 = ms 9 := by
    rw [hP]
    rw [upd_ne (by omega), upd_ne (by omega), upd_ne (by omega), upd_ne (by omega)]
    exact gr 9 (by omega) (by unfold inM; omega)
  have mP : mw (upd P 9 (P 9 - mw P B)) B = mw P B := by
    unfold mw
    simp (disch := omega) only [upd_ne, upd_at]
  have Pa : ∀ w, w < 3 → P (12 + 10 * B + w) = if a = w then len else N (12 + 10 * B + w) := fun w hw => by
    rw [hP, upd_ne (by omega), upd_ne (by omega), upd_ne (by omega)]
    by_cases q : a = w
    · subst q; rw [if_pos rfl, upd_at]
    · rw [if_neg q, upd_ne (by omega)]
  refine ⟨_, er, ?_, fun i i1 i2 i3 => ?_, ?_, ?_, ?_, ?_, ?_, ?_, ?_, ?_, ?_, ?_, ?_⟩
  · rw [upd_ne (by omega), hP, upd_ne (by omega), upd_ne (by omega), upd_ne (by omega), upd_ne (by omega)]; exact N5
  · have := gr i i1 i3
    unfold inM at i3
    rw [upd_ne i2, hP, upd_ne (by omega), upd_ne (by omega), upd_ne (by omega), upd_ne (by omega)]; exact this
  · rw [upd_ne (by omega), Pa 0 (by omega), N0]
  · rw [upd_ne (by omega), Pa 1 (by omega), N1]
  · rw [upd_ne (by omega), Pa 2 (by omega), N2]
  · rw [upd_ne (by omega), hP, upd_ne (by omega), upd_ne (by omega), upd_ne (by omega), upd_ne (by omega)]; exact N3
  · rw [upd_ne (by omega), hP, upd_ne (by omega), upd_ne (by omega), upd_ne (by omega), upd_ne (by omega)]; exact N4
  · rw [upd_ne (by omega), hP]; simp (disch := omega) only [upd_ne, upd_at]
  · rw [upd_ne (by omega), hP]; simp (disch := omega) only [upd_ne, upd_at]
  · rw [upd_ne (by omega), hP, upd_ne (by omega), upd_ne (by omega), upd_ne (by omega), upd_ne (by omega)]; exact N7
  · rw [upd_ne (by omega), hP, upd_ne (by omega), upd_ne (by omega), upd_ne (by omega), upd_ne (by omega)]; exact N8
  · rw [upd_ne (by omega), hP, upd_at]
  · rw [mP, upd_at, P9]
