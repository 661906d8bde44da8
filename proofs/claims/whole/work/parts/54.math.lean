/-! NIGHTS: the step -/
theorem s_dry {k B O : Nat} {f : Nat → Int32} (c : CI f B O) (hk : 25 ≤ k) : ∃ F, f_X6_dryBlocks k f = some F ∧ (∀ x, (∀ b, b < B → x ≠ 8 + b * 11 + 6) → F x = f x) ∧ ∀ b, b < B → F (8 + b * 11 + 6) = zwet (f (8 + b * 11 + 5)) (f (8 + b * 11 + 6)) := by
  have hB := c.hB
  obtain ⟨F, e, fr, on⟩ := dry_loop (k := k) hB k 0 f (by omega) (by omega)
  refine ⟨F, ?_, fun x hx => fr x (fun b _ hb => hx b hb), fun b hb => on b (by omega) hb⟩
  rw [f_X6_dryBlocks, s_cell6, zb1_some, c.f6]
  exact e
theorem crk_if {k : Nat} {f : Nat → Int32} : f_X6_crackBlocks k f = zb1 (f_X7_ifFrost k f) (fun v => f_X6_crackBlocks_b21 k k f v 0) := by
  rw [f_X6_crackBlocks, f_X7_ifFrost]
  cases f_X1_blocksForFrost k f with
  | none => rfl
  | some a =>
    rw [zb1_some, zb1_some]
    cases f_X5_blocksWith k f 7 0 with
    | none => rfl
    | some b => rfl
theorem s_crack {k B O : Nat} {f ms : Nat → Int32} (R : Rel f ms B O) (hk : 25 ≤ k) : ∃ F, f_X6_crackBlocks k f = some (Int32.ofNat (zcnt (fun b => decide (ms (12 + 10 * b + 4) = 0 ∧ ¬ ms (12 + 10 * b + 5) ≤ 0 ∧ ms (12 + 10 * b + 6) = 0)) B), F) ∧
    (∀ x, (∀ b, b < B → x ≠ 8 + b * 11 + 7) → F x = f x) ∧ ∀ b, b < B → F (8 + b * 11 + 7) = if decide (ms (12 + 10 * b + 4) = 0 ∧ ¬ ms (12 + 10 * b + 5) ≤ 0 ∧ ms (12 + 10 * b + 6) = 0) = true then 1 else f (8 + b * 11 + 7) := by
  have hB := R.c.hB
  obtain ⟨r, r1, r2⟩ := op_frost (k := k) R hk
  rw [m_frost R.m hk] at r2
  have r3 := (Option.some.inj r2).symm
  obtain ⟨F, e, fr, on⟩ := crk_loop (k := k) (P := fun b => decide (ms (12 + 10 * b + 4) = 0 ∧ ¬ ms (12 + 10 * b + 5) ≤ 0 ∧ ms (12 + 10 * b + 6) = 0)) hB k 0 f (by omega) (by omega)
  refine ⟨F, ?_, fun x hx => fr x (fun b _ hb _ => hx b hb), fun b hb => ?_⟩
  · rw [crk_if, r1, zb1_some, r3]
    exact e
  · by_cases q : decide (ms (12 + 10 * b + 4) = 0 ∧ ¬ ms (12 + 10 * b + 5) ≤ 0 ∧ ms (12 + 10 * b + 6) = 0) = true
    · rw [if_pos q]
      exact on b (by omega) hb q
    · rw [if_neg q]
      exact fr _ (fun c _ hc hP => by
        intro t
        have : c = b := by omega
        subst this
        exact q hP)
theorem zcnt_no : ∀ n, zcnt (fun _ => false) n = 0 := by
  intro n
  induction n with
  | zero => rfl
  | succ n ih => rw [zcnt]; exact ih
theorem nt_key {k B O : Nat} {f ms F1 : Nat → Int32} {P : Nat → Bool} {p1 fz : Int32} (R : Rel f ms B O) (hk : 25 ≤ k) (hz : fz = 0 ∨ fz = 1) (hP : ∀ b, b < B → zcr (upd ms 7 fz) b = P b) (h9 : ¬ (f 5).toInt = 999)
    (fr1 : ∀ x, (∀ b, b < B → x ≠ 8 + b * 11 + 7) → F1 x = f x) (on1 : ∀ b, b < B → F1 (8 + b * 11 + 7) = if P b = true then 1 else f (8 + b * 11 + 7)) :
    ∃ F M, f_X6_passNight_b64 k p1 F1 (f 5) fz (Int32.ofNat (zcnt P B)) = some (Int32.ofNat (zcnt P B), F) ∧ f_X8_nights_b55 k p1 k (upd ms 7 fz) 0 0 = some (Int32.ofNat (zcnt P B), M) ∧ Rel F M B O := by
  have hB := R.c.hB
  have hO := R.c.hO
  obtain ⟨⟨g0, g1, g2, g3, g4, g5⟩, -, -, -, -, g6, g7⟩ := R.gen
  have c1 : CI F1 B O := ⟨hB, hO, by rw [fr1 6 (fun b hb => by omega)]; exact R.c.f6, by rw [fr1 7 (fun b hb => by omega)]; exact R.c.f7⟩
  obtain ⟨F2, e2, fr2, on2⟩ := s_dry (k := k) c1 hk
  obtain ⟨M, eM, e4, frM, onM⟩ := m_night_loop (k := k) (O := O) (P := P) (p1 := p1) k 0 (upd ms 7 fz) ⟨hB, hO, by simp (disch := omega) only [upd_ne, upd_at]; exact R.m.m5, by simp (disch := omega) only [upd_ne, upd_at]; exact R.m.m6⟩ (by omega) (by omega) (fun b _ hb => hP b hb)
  have b84 : ∀ z y, f_X6_passNight_b84 k p1 F2 (f 5) y z 4 = some (y, upd (upd F2 4 z) 5 (f 5 + 1)) := fun z y => by
    rw [f_X6_passNight_b84, s_set4, zb1_some, zl_e, s_set5, zb1_some]
  have t1 : (1 : Int32).toInt = 1 := by decide
  refine ⟨upd (upd F2 4 fz) 5 (f 5 + 1), M, ?_, eM, R.night (P := P) (fun x h4 h5 hx => ?_) (fun x h4 h7 hx => ?_) ?_ ?_ ?_ (fun b hb => ?_) (fun b hb => ?_)⟩
  · rw [f_X6_passNight_b64, e2, zb1_some, b84, b84]
    rcases hz with rfl | rfl
    · rw [if_pos rfl]
    · rw [if_neg n10]
  · rw [upd_ne h5, upd_ne h4, fr2 x (fun b hb => (hx b hb).1), fr1 x (fun b hb => (hx b hb).2)]
  · rw [frM x h4 (fun b _ hb => hx b hb), upd_ne h7]
  · rw [upd_ne (by omega), upd_at, frM 7 (by omega) (fun b _ hb => by omega), upd_at]
  · rw [upd_at, e4, upd_ne (by omega), g5]
  · rw [upd_at, i_add (by rw [t1]; omega) (by rw [t1]; omega), t1]
    omega
  · refine ⟨?_, ?_⟩
    · rw [upd_ne (by omega), upd_ne (by omega), fr2 _ (fun c hc => by omega), on1 b hb]
    · rw [upd_ne (by omega), upd_ne (by omega), on2 b hb, fr1 _ (fun c hc => by omega), fr1 _ (fun c hc => by omega)]
  · obtain ⟨o1, o2⟩ := onM b (by omega) hb
    rw [o1, o2, upd_ne (by omega), upd_ne (by omega), upd_ne (by omega)]
    exact ⟨rfl, rfl⟩
theorem stp_night {k : Nat} {f ms : Nat → Int32} {B O : Nat} (R : Rel f ms B O) (hk : 25 ≤ k) (p1 : Int32) : Step f ms (f_X6_passNight k f p1) (f_X8_nights k ms p1) := by
  have hB := R.c.hB
  obtain ⟨⟨g0, g1, g2, g3, g4, g5⟩, -, -, -, -, g6, g7⟩ := R.gen
  have t40 : (40 : Int32).toInt = 40 := by decide
  have t999 : (999 : Int32).toInt = 999 := by decide
  by_cases q : ¬ p1 < -40 ∧ ¬ (40 : Int32) < p1
  · have q40 : p1 ≤ 40 := by
      have := q.2
      rw [i_lt, t40] at this
      rw [i_le, t40]
      omega
    have b50 : ∀ y, f_X8_nights_b50 k p1 ms y 7 = f_X8_nights_b55 k p1 k (upd ms 7 y) 0 0 := fun y => by
      rw [f_X8_nights_b50]
      exact m_wr (i := 7) (by omega) (by omega)
    have x2 : f_X8_nights k ms p1 = if ms 4 = 999 then some (-5, ms) else if f 2 < p1 then f_X8_nights_b55 k p1 k (upd ms 7 0) 0 0 else f_X8_nights_b55 k p1 k (upd ms 7 1) 0 0 := by
      rw [f_X8_nights, m_in, zb1_some, if_neg (by rw [if_pos q]; exact n10), zl_e, zl_e, g2, b50, b50]
    by_cases q9 : ms 4 = 999
    · refine Step.err R (r := -5) ?_ (by rw [x2, if_pos q9])
      rw [f_X6_passNight, if_neg q.1, if_pos q40, s_cell5, zb1_some, if_neg (by rw [g5, q9]; decide)]
    · have n9 : ¬ (f 5).toInt = 999 := fun t => q9 (by rw [← g5, i_eq, t999]; exact t)
      have q5 : f 5 < 999 := by
        rw [i_lt, t999]
        omega
      by_cases qf : f 2 < p1
      · obtain ⟨F, M, y1, y2, y3⟩ := nt_key (k := k) (P := fun _ => false) (p1 := p1) (fz := 0) (F1 := f) R hk (.inl rfl) (fun b hb => decide_eq_false (fun t => absurd t.1 (by rw [upd_at]; decide))) n9 (fun _ _ => rfl) (fun _ _ => rfl)
        rw [zcnt_no] at y1 y2
        refine ⟨_, F, M, B, O, ?_, by rw [x2, if_neg q9, if_pos qf, y2], y3, fun t => absurd t (by decide)⟩
        rw [f_X6_passNight, if_neg q.1, if_pos q40, s_cell5, zb1_some, if_pos q5, s_cell2, zb1_some, if_pos qf, if_pos rfl]
        exact y1
      · obtain ⟨F1, z1, z2, z3⟩ := s_crack (k := k) R hk
        obtain ⟨F, M, y1, y2, y3⟩ := nt_key (k := k) (P := fun b => decide (ms (12 + 10 * b + 4) = 0 ∧ ¬ ms (12 + 10 * b + 5) ≤ 0 ∧ ms (12 + 10 * b + 6) = 0)) (p1 := p1) (fz := 1) (F1 := F1) R hk (.inr rfl) (fun b hb => by
          unfold zcr
          rw [upd_at, upd_ne (by omega), upd_ne (by omega), upd_ne (by omega)]
          simp) n9 z2 z3
        have zl := zcnt_le (P := fun b => decide (ms (12 + 10 * b + 4) = 0 ∧ ¬ ms (12 + 10 * b + 5) ≤ 0 ∧ ms (12 + 10 * b + 6) = 0)) B
        refine ⟨_, F, M, B, O, ?_, by rw [x2, if_neg q9, if_neg qf, y2], y3, fun t => absurd t (n_lt0 (by omega))⟩
        rw [f_X6_passNight, if_neg q.1, if_pos q40, s_cell5, zb1_some, if_pos q5, s_cell2, zb1_some, if_neg qf, if_neg n10, z1, zb2_some]
        exact y1
  · refine Step.err R (r := -2) ?_ (by rw [f_X8_nights, m_in, zb1_some, if_pos (by rw [if_neg q])])
    rw [f_X6_passNight]
    by_cases q0 : p1 < -40
    · rw [if_pos q0]
    · rw [if_neg q0, if_neg (fun t => q ⟨q0, fun r => by
        rw [i_lt, t40] at r
        rw [i_le, t40] at t
        omega⟩)]
