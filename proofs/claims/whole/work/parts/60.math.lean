/-! CHANGES, as a whole call of both sides -/
def Chg (x : Option (Int32 × (Nat → Int32) × (Nat → Nat → Int32) × Int32 × Int32)) (y : Option (Int32 × (Nat → Int32) × (Nat → Int32) × (Nat → Int32) × Int32)) : Prop :=
  ∃ r f1 g1 n1 h1 m1 a1 hi1 B1 O1, x = some (r, f1, g1, Int32.ofNat n1, Int32.ofNat h1) ∧ y = some (r, m1, a1, hi1, Int32.ofNat h1) ∧ Rel f1 m1 B1 O1 ∧ HR g1 n1 h1 hi1
def ChgD (x : Option (Int32 × (Nat → Int32) × (Nat → Nat → Int32) × Int32 × Int32)) (y : Option (Int32 × (Nat → Int32) × (Nat → Int32) × (Nat → Int32) × Int32 × (Nat → Int32))) : Prop :=
  ∃ r f1 g1 n1 h1 m1 a1 hi1 s1 B1 O1, x = some (r, f1, g1, Int32.ofNat n1, Int32.ofNat h1) ∧ y = some (r, m1, a1, hi1, Int32.ofNat h1, s1) ∧ Rel f1 m1 B1 O1 ∧ HR g1 n1 h1 hi1
theorem chg_lay {k n h B O : Nat} {f ms ah hi : Nat → Int32} {g : Nat → Nat → Int32} {x : Option (Int32 × (Nat → Int32))} {y : (Nat → Int32) → (Nat → Int32) → Int32 → Option (Int32 × (Nat → Int32) × (Nat → Int32) × (Nat → Int32) × Int32)} (hk : 2000 ≤ k) (R : Rel f ms B O) (H : HR g n h hi) (L : Lay k f ms x y) :
    Chg (zb1 (f_X2_note k f g (Int32.ofNat n)) fun g1 => zb2 x fun v2 f3 => zb3 (f_X2_settle k (Int32.ofNat n) (Int32.ofNat h) v2) fun v4 nx5 hz6 => some (v4, f3, g1, nx5, hz6)) (y ah hi (Int32.ofNat h)) := by
  obtain ⟨r, f', ms', B', O', hx, R', hh⟩ := L
  rw [s_note H.1, zb1_some, hx, zb2_some]
  rcases hh with ⟨r0, rfl, rfl, e⟩ | ⟨r0, e⟩
  · rw [s_settle_no r0, zb3_some]
    exact ⟨r, _, _, n, h, ms', ah, hi, B', O', rfl, e ah hi _, R', H.note⟩
  · rw [s_settle H.1 H.2.1 r0, zb3_some]
    obtain ⟨a1, e1, e2⟩ := m_looks (k := k) (ms := ms) hk ah
    obtain ⟨h1, e3, r1, r2⟩ := m_records (k := k) (ah := a1) (hi := hi) hk H.2.1
    exact ⟨r, f', _, _, _, ms', a1, h1, B', O', rfl, e ah hi _ a1 h1 _ e1 e3, R', H.put R e2 r1 r2⟩
theorem zb6_some {α β γ δ ε ζ ρ : Type} {a : α} {b : β} {c : γ} {d : δ} {e : ε} {z : ζ} {k : α → β → γ → δ → ε → ζ → Option ρ} : zb6 (some (a, b, c, d, e, z)) k = k a b c d e z := rfl
theorem chg_try {k n h B O : Nat} {f ms ah hi so : Nat → Int32} {g : Nat → Nat → Int32} {x : Option (Int32 × (Nat → Int32))} {p1 p2 p3 p4 p5 : Int32} (hk : 2000 ≤ k) (R : Rel f ms B O) (H : HR g n h hi) (S : StepD f ms x (f_X8_does k ms so p1 p2 p3 p4 p5)) :
    ChgD (zb1 (f_X2_note k f g (Int32.ofNat n)) fun g1 => zb2 x fun v2 f3 => zb3 (f_X2_settle k (Int32.ofNat n) (Int32.ofNat h) v2) fun v4 nx5 hz6 => some (v4, f3, g1, nx5, hz6))
      (zb6 (f_X8_tries k ms ah hi (Int32.ofNat h) so p1 p2 p3 p4 p5) fun v1 ms2 ah3 hi4 kp5 so6 => some (v1, ms2, ah3, hi4, kp5, so6)) := by
  obtain ⟨r, f', ms', s1, B', O', hx, hy, R', he⟩ := S
  obtain ⟨a1, e1, e2⟩ := m_looks (k := k) (ms := ms) hk ah
  rw [s_note H.1, zb1_some, hx, zb2_some, f_X8_tries, e1, zb1_some, hy, zb3_some]
  by_cases r0 : r < 0
  · rw [s_settle_no r0, zb3_some, if_pos r0, zb6_some]
    exact ⟨r, f', _, n, h, ms', a1, hi, s1, B', O', rfl, rfl, R', H.note⟩
  · rw [s_settle H.1 H.2.1 r0, zb3_some, if_neg r0]
    obtain ⟨h1, e3, r1, r2⟩ := m_records (k := k) (ah := a1) (hi := hi) hk H.2.1
    rw [e3, zb2_some, zb6_some]
    exact ⟨r, f', _, _, _, ms', a1, h1, s1, B', O', rfl, rfl, R', H.put R e2 r1 r2⟩
/-! saving, restoring -/
def Slo (sw : Nat → Nat → Int32) (fl sl sv : Nat → Int32) : Prop := ∀ i, i < 2 → fl i = sv i ∧ (¬ fl i = 0 → ∃ B O, Rel (sw i) (fun j => sl (324 * i + j)) B O)
theorem j_slot (k : Nat) (p : Int32) : (∃ b, b < 2 ∧ p = Int32.ofNat b ∧ f_X7_isSlot k p = some 1 ∧ f_X8_in k p 0 1 = some 1) ∨ (f_X7_isSlot k p = some 0 ∧ f_X8_in k p 0 1 = some 0) := by
  rw [f_X7_isSlot, m_in]
  have c1 : Int32.ofNat 2 - 1 = (1 : Int32) := by decide
  rcases j_in (f := fun _ => 0) (ms := fun _ => 0) (v := 0) (n := 2) (by omega) p with ⟨b, b1, b2, h0, h1, h2⟩ | ⟨h1, h2⟩
  · rw [c1] at h2
    exact .inl ⟨b, b1, b2, by rw [if_neg h0, if_neg (show ¬ (2 : Int32) ≤ p from h1)], by rw [if_pos ⟨h0, h2⟩]⟩
  · rw [c1] at h2
    refine .inr ⟨?_, ?_⟩
    · by_cases h0 : p < 0
      · rw [if_pos h0]
      · rw [if_neg h0, if_pos (show (2 : Int32) ≤ p from h1.resolve_left h0)]
    · rw [if_neg (fun q => h2.elim q.1 q.2)]
theorem nar_1 : vp_nar .boolean (1 : Int32) = 1 := by decide
theorem save_loop {k b : Nat} {ms sv : Nat → Int32} (hb : b < 2) : ∀ n i (sl : Nat → Int32), i ≤ 324 → 324 - i < n → ∃ s1, f_X8_save_b14 k ms (Int32.ofNat b) n sl sv (Int32.ofNat i) = some (ms 5, s1, upd sv b 1) ∧ (∀ x, (x < 324 * b + i ∨ 324 * b + 324 ≤ x) → s1 x = sl x) ∧ ∀ j, i ≤ j → j < 324 → s1 (324 * b + j) = ms j := by
  intro n
  induction n with
  | zero => intro i _ _ h; omega
  | succ n ih =>
    intro i sl hi hn
    rw [f_X8_save_b14]
    by_cases c : i < 324
    · rw [if_neg (n_324 c), zl_e, zl_e, n_324m, m_rd c (by omega), m_wr (by omega) (by omega), zl_e, n_suc]
      obtain ⟨h1, e, lo, up⟩ := ih (i + 1) (upd sl (324 * b + i) (ms i)) (by omega) (by omega)
      refine ⟨h1, e, fun x hx => ?_, fun j j1 j2 => ?_⟩
      · rw [lo x (by omega), upd_ne (by omega)]
      · by_cases q : j = i
        · subst q; rw [lo _ (by omega), upd_at]
        · exact up j (by omega) j2
    · have : i = 324 := by omega
      subst this
      rw [if_pos (by decide), m_wr hb (by omega), zl_e, nar_1]
      exact ⟨sl, rfl, fun _ _ => rfl, fun j h1 h2 => by omega⟩
theorem op_save {k B O : Nat} {f ms fl sl sv : Nat → Int32} {sw : Nat → Nat → Int32} (hk : 2000 ≤ k) (R : Rel f ms B O) (S : Slo sw fl sl sv) (p1 : Int32) :
    ∃ r sw1 fl1 sl1 sv1, f_X7_save k f sw fl p1 = some (r, sw1, fl1) ∧ f_X8_save k ms sl sv p1 = some (r, sl1, sv1) ∧ Slo sw1 fl1 sl1 sv1 := by
  rcases j_slot k p1 with ⟨b, b1, rfl, e1, e2⟩ | ⟨e1, e2⟩
  · obtain ⟨s1, e, lo, up⟩ := save_loop (k := k) (ms := ms) (sv := sv) b1 k 0 sl (by omega) (by omega)
    refine ⟨f 6, fun i => if i = b then va_cpy f (sw i) 0 0 344 else sw i, upd fl b 1, s1, upd sv b 1, ?_, ?_, fun i hi => ⟨?_, fun t => ?_⟩⟩
    · rw [f_X7_save, e1, zb1_some, if_neg n10, f_X4_keep, if_neg (n_lt0 (by omega)), if_neg (show ¬ (2 : Int32) ≤ Int32.ofNat b from fun t => absurd ((n_le (a := 2) (by omega) (by omega)).mp t) (by omega)), m_wr b1 (by omega), s_cell6, zb1_some, zb3_some, nar_1, n_nat (by omega)]
    · rw [f_X8_save, e2, zb1_some, if_neg n10, R.c.f6, ← R.m.m5]
      exact e
    · by_cases q : i = b
      · subst q; rw [upd_at, upd_at]
      · rw [upd_ne q, upd_ne q]; exact (S i hi).1
    · by_cases q : i = b
      · subst q
        refine ⟨B, O, R.congr (fun j hj => ?_) (fun j hj => up j (by omega) hj)⟩
        simp only [if_true]
        exact cpy_e hj
      · rw [upd_ne q] at t
        obtain ⟨B1, O1, R1⟩ := (S i hi).2 t
        refine ⟨B1, O1, R1.congr (fun j hj => ?_) (fun j hj => lo _ (by omega))⟩
        simp only [if_neg q]
  · exact ⟨-2, sw, fl, sl, sv, by rw [f_X7_save, e1]; rfl, by rw [f_X8_save, e2]; rfl, S⟩
theorem restore_loop {k b : Nat} {sl sv ah hi : Nat → Int32} {kp : Int32} (hb : b < 2) : ∀ n i (ms : Nat → Int32), i ≤ 324 → 324 - i < n → ∃ m1, f_X8_restore_b34 k sl sv (Int32.ofNat b) n ms ah hi kp (Int32.ofNat i) = some (m1 5, m1, ah, hi, kp) ∧ (∀ x, x < i → m1 x = ms x) ∧ ∀ j, i ≤ j → j < 324 → m1 j = sl (324 * b + j) := by
  intro n
  induction n with
  | zero => intro i _ _ h; omega
  | succ n ih =>
    intro i ms hi' hn
    rw [f_X8_restore_b34]
    by_cases c : i < 324
    · rw [if_neg (n_324 c), zl_e, zl_e, n_324m, m_rd (by omega) (by omega), m_wr c (by omega), zl_e, n_suc]
      obtain ⟨m1, e, lo, up⟩ := ih (i + 1) (upd ms i (sl (324 * b + i))) (by omega) (by omega)
      refine ⟨m1, e, fun x hx => ?_, fun j j1 j2 => ?_⟩
      · rw [lo x (by omega), upd_ne (by omega)]
      · by_cases q : j = i
        · subst q; rw [lo _ (by omega), upd_at]
        · exact up j (by omega) j2
    · have : i = 324 := by omega
      subst this
      rw [if_pos (by decide), zl_e]
      exact ⟨ms, rfl, fun _ _ => rfl, fun j h1 h2 => by omega⟩
theorem op_restore {k n h B O : Nat} {f ms ah hi fl sl sv : Nat → Int32} {g sw : Nat → Nat → Int32} (hk : 2000 ≤ k) (R : Rel f ms B O) (H : HR g n h hi) (S : Slo sw fl sl sv) (p1 : Int32) :
    Chg (f_X7_restore k f g (Int32.ofNat n) (Int32.ofNat h) sw fl p1) (f_X8_restore k ms ah hi (Int32.ofNat h) sl sv p1) := by
  rcases j_slot k p1 with ⟨b, b1, rfl, e1, e2⟩ | ⟨e1, e2⟩
  · obtain ⟨t1, t2⟩ := S b b1
    have n2 : ¬ (2 : Int32) ≤ Int32.ofNat b := fun t => absurd ((n_le (a := 2) (by omega) (by omega)).mp t) (by omega)
    rw [f_X7_restore, e1, zb1_some, if_neg n10, s_note H.1, zb1_some, f_X4_bring, if_neg (n_lt0 (by omega)), if_neg n2, m_rd b1 (by omega), f_X8_restore, e2, zb1_some, if_neg n10, m_rd b1 (by omega), ← t1]
    by_cases q : fl b = 0
    · rw [if_pos q, if_pos q, zb2_some, s_settle_no (by decide), zb3_some]
      exact ⟨-5, f, _, n, h, ms, ah, hi, B, O, rfl, rfl, R, H.note⟩
    · obtain ⟨B1, O1, R1⟩ := t2 q
      obtain ⟨a1, a2, a3⟩ := m_looks (k := k) (ms := ms) hk ah
      obtain ⟨h1, r0, r1, r2⟩ := m_records (k := k) (ah := a1) (hi := hi) hk H.2.1
      obtain ⟨m1, e, -, up⟩ := restore_loop (k := k) (sl := sl) (sv := sv) (ah := a1) (hi := h1) (kp := Int32.ofNat (if h = 6 then 6 else h + 1)) b1 k 0 ms (by omega) (by omega)
      have R2 : Rel (va_cpy (sw b) f 0 0 344) m1 B1 O1 := R1.congr (fun i hi => cpy_e hi) (fun i hi => up i (by omega) hi)
      have hB1 := R2.c.hB
      rw [if_neg q, if_neg q, zl_e, n_nat (by omega), s_cell6, zb1_some, zb2_some, R2.c.f6, s_settle H.1 H.2.1 (n_lt0 (by omega)), zb3_some, a2, zb1_some, r0, zb2_some]
      exact ⟨Int32.ofNat B1, _, _, _, _, m1, a1, h1, B1, O1, rfl, by rw [← R2.m.m5]; exact e, R2, H.put R a3 r1 r2⟩
  · exact ⟨-2, f, g, n, h, ms, ah, hi, B, O, by rw [f_X7_restore, e1]; rfl, by rw [f_X8_restore, e2]; rfl, R, H⟩
