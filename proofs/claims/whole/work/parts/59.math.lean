/-! HISTORY AND SLOTS -/
theorem Rel.congr {f ms f' ms' : Nat → Int32} {B O : Nat} (R : Rel f ms B O) (hf : ∀ i, i < 344 → f' i = f i) (hm : ∀ i, i < 324 → ms' i = ms i) : Rel f' ms' B O := by
  have hB := R.c.hB
  have hO := R.c.hO
  exact ⟨⟨hB, hO, by rw [hf 6 (by omega)]; exact R.c.f6, by rw [hf 7 (by omega)]; exact R.c.f7⟩, ⟨hB, hO, by rw [hm 5 (by omega)]; exact R.m.m5, by rw [hm 6 (by omega)]; exact R.m.m6⟩, R.gen.same (fun i _ => hf i (by omega)) (fun i _ => hm i (by omega)), R.ll.same (fun i _ _ => hf i (by omega)) (fun i _ _ => hm i (by omega)), R.lm.same (fun i _ _ => hf i (by omega)), fun b hb => (R.blk b hb).same (fun w hw => hf _ (by omega)) (fun w hw => hm _ (by omega)) (fun o o1 o2 o3 o4 => ⟨o1, by rw [hf _ (by omega)]; exact o3, by rw [hf _ (by omega)]; exact o4⟩), R.uq.same (fun b hb => hf _ (by omega)), fun o ho => (R.ord o ho).same (Nat.le_refl _) (fun w hw => hf _ (by omega)) (fun w hw => hm _ (by omega)), R.sums.same (hm 8 (by omega)) (hm 9 (by omega)) (hm 10 (by omega)) (hm 11 (by omega)) (fun b hb => ⟨hf _ (by omega), hf _ (by omega), hf _ (by omega)⟩) (fun o ho => ⟨hf _ (by omega), hf _ (by omega)⟩)⟩
theorem cpy_e {f g : Nat → Int32} {i : Nat} (hi : i < 344) : va_cpy f g 0 0 344 i = f i := by
  unfold va_cpy
  rw [if_pos ⟨by omega, by omega⟩]
  congr 1
  omega
/-! the reference's copies -/
theorem n_324 {i : Nat} (hi : i < 324) : ¬ (324 : Int32) ≤ Int32.ofNat i := fun t => absurd ((n_le (a := 324) (by omega) (by omega)).mp t) (by omega)
theorem looks_loop {k : Nat} {ms : Nat → Int32} : ∀ n i (ah : Nat → Int32), i ≤ 324 → 324 - i < n → ∃ a1, f_X8_looks_b2 k ms n ah (Int32.ofNat i) = some a1 ∧ (∀ j, j < i → a1 j = ah j) ∧ ∀ j, i ≤ j → j < 324 → a1 j = ms j := by
  intro n
  induction n with
  | zero => intro i _ _ h; omega
  | succ n ih =>
    intro i ah hi hn
    rw [f_X8_looks_b2]
    by_cases h : i < 324
    · rw [if_neg (n_324 h), m_rd h (by omega), m_wr h (by omega), zl_e, n_suc]
      obtain ⟨a1, e, lo, hi'⟩ := ih (i + 1) (upd ah i (ms i)) (by omega) (by omega)
      refine ⟨a1, e, fun j hj => ?_, fun j h1 h2 => ?_⟩
      · rw [lo j (by omega), upd_ne (by omega)]
      · by_cases q : j = i
        · subst q; rw [lo j (by omega), upd_at]
        · exact hi' j (by omega) h2
    · have : i = 324 := by omega
      subst this
      rw [if_pos (by decide)]
      exact ⟨ah, rfl, fun _ _ => rfl, fun j h1 h2 => by omega⟩
theorem m_looks {k : Nat} {ms : Nat → Int32} (hk : 2000 ≤ k) (ah : Nat → Int32) : ∃ a1, f_X8_looks k ms ah = some a1 ∧ ∀ j, j < 324 → a1 j = ms j := by
  obtain ⟨a1, e, -, h⟩ := looks_loop (k := k) (ms := ms) k 0 ah (by omega) (by omega)
  exact ⟨a1, by rw [f_X8_looks]; exact e, fun j hj => h j (by omega) hj⟩
theorem n_324m (a b : Nat) : (324 : Int32) * Int32.ofNat a + Int32.ofNat b = Int32.ofNat (324 * a + b) := by
  rw [show (324 : Int32) = Int32.ofNat 324 from rfl, n_mul, n_add]
theorem rec_loop {k h : Nat} {ah : Nat → Int32} (hh : h < 6) : ∀ n i (hi : Nat → Int32), i ≤ 324 → 324 - i < n → ∃ h1, f_X8_records_b52 k ah n hi (Int32.ofNat h) (Int32.ofNat i) = some (h1, Int32.ofNat (h + 1)) ∧ (∀ x, (x < 324 * h + i ∨ 324 * h + 324 ≤ x) → h1 x = hi x) ∧ ∀ j, i ≤ j → j < 324 → h1 (324 * h + j) = ah j := by
  intro n
  induction n with
  | zero => intro i _ _ h; omega
  | succ n ih =>
    intro i hi hi' hn
    rw [f_X8_records_b52]
    by_cases c : i < 324
    · rw [if_neg (n_324 c), zl_e, zl_e, n_324m, m_rd c (by omega), m_wr (by omega) (by omega), zl_e, n_suc]
      obtain ⟨h1, e, lo, up⟩ := ih (i + 1) (upd hi (324 * h + i) (ah i)) (by omega) (by omega)
      refine ⟨h1, e, fun x hx => ?_, fun j j1 j2 => ?_⟩
      · rw [lo x (by omega), upd_ne (by omega)]
      · by_cases q : j = i
        · subst q; rw [lo _ (by omega), upd_at]
        · exact up j (by omega) j2
    · have : i = 324 := by omega
      subst this
      rw [if_pos (by decide), zl_e, zl_e, n_suc]
      exact ⟨hi, rfl, fun _ _ => rfl, fun j h1 h2 => by omega⟩
theorem shift_loop {k : Nat} {ah : Nat → Int32} (hk : 2000 ≤ k) : ∀ n i (hi : Nat → Int32), i ≤ 1620 → 1620 - i < n → ∃ h1, f_X8_records_b11 k ah n hi 6 (Int32.ofNat i) = some (h1, 6) ∧ (∀ x, x < i → h1 x = hi x) ∧ (∀ x, i ≤ x → x < 1620 → h1 x = hi (x + 324)) ∧ ∀ j, j < 324 → h1 (1620 + j) = ah j := by
  intro n
  induction n with
  | zero => intro i _ _ h; omega
  | succ n ih =>
    intro i hi hi' hn
    rw [f_X8_records_b11]
    by_cases c : i < 1620
    · rw [if_neg (show ¬ (1620 : Int32) ≤ Int32.ofNat i from fun t => absurd ((n_le (a := 1620) (by omega) (by omega)).mp t) (by omega)), zl_e, show Int32.ofNat i + 324 = Int32.ofNat (i + 324) from n_add i 324, m_rd (by omega) (by omega), m_wr (by omega) (by omega), zl_e, n_suc]
      obtain ⟨h1, e, lo, up, la⟩ := ih (i + 1) (upd hi i (hi (i + 324))) (by omega) (by omega)
      refine ⟨h1, e, fun x hx => ?_, fun x x1 x2 => ?_, la⟩
      · rw [lo x (by omega), upd_ne (by omega)]
      · by_cases q : x = i
        · subst q; rw [lo x (by omega), upd_at]
        · rw [up x (by omega) x2, upd_ne (by omega)]
    · have : i = 1620 := by omega
      subst this
      rw [if_pos (by decide), zl_e, zl_e]
      obtain ⟨h1, e, lo, up⟩ := rec_loop (k := k) (h := 5) (ah := ah) (by omega) k 0 hi (by omega) (by omega)
      exact ⟨h1, e, fun x hx => lo x (by omega), fun x x1 x2 => by omega, fun j hj => up j (by omega) hj⟩
/-- records: the rows that are kept, and the new one -/
theorem m_records {k h : Nat} {ah hi : Nat → Int32} (hk : 2000 ≤ k) (hh : h ≤ 6) : ∃ h1, f_X8_records k ah hi (Int32.ofNat h) = some (h1, Int32.ofNat (if h = 6 then 6 else h + 1)) ∧
    (h < 6 → (∀ j x, j < h → x < 324 → h1 (324 * j + x) = hi (324 * j + x)) ∧ ∀ x, x < 324 → h1 (324 * h + x) = ah x) ∧
    (h = 6 → (∀ j x, j < 5 → x < 324 → h1 (324 * j + x) = hi (324 * (j + 1) + x)) ∧ ∀ x, x < 324 → h1 (324 * 5 + x) = ah x) := by
  by_cases q : h = 6
  · subst q
    obtain ⟨h1, e, -, up, la⟩ := shift_loop (k := k) (ah := ah) hk k 0 hi (by omega) (by omega)
    refine ⟨h1, ?_, fun t => by omega, fun _ => ⟨fun j x hj hx => ?_, fun x hx => ?_⟩⟩
    · rw [f_X8_records, if_pos (by decide), if_pos rfl]
      exact e
    · rw [up _ (by omega) (by omega)]
      congr 1
      omega
    · exact la x hx
  · obtain ⟨h1, e, lo, up⟩ := rec_loop (k := k) (h := h) (ah := ah) (by omega) k 0 hi (by omega) (by omega)
    refine ⟨h1, ?_, fun _ => ⟨fun j x hj hx => lo _ (by omega), fun x hx => up x (by omega) hx⟩, fun t => absurd t q⟩
    rw [f_X8_records, if_neg (show ¬ Int32.ofNat h = 6 from fun t => q ((n_inj (b := 6) (by omega) (by omega)).mp t)), if_neg q]
    exact e
/-! the relation of the histories: row (n + 7 - h + j) mod 7 of the class's ring goes with row j of the reference -/
def HR (g : Nat → Nat → Int32) (n h : Nat) (hi : Nat → Int32) : Prop :=
  n < 7 ∧ h ≤ 6 ∧ ∀ j, j < h → ∃ B O, Rel (g ((n + 7 - h + j) % 7)) (fun i => hi (324 * j + i)) B O
def ring (f : Nat → Int32) (g : Nat → Nat → Int32) (n : Nat) : Nat → Nat → Int32 := fun i => if i = n then va_cpy f (g i) 0 0 344 else g i
theorem s_note {k n : Nat} {f : Nat → Int32} {g : Nat → Nat → Int32} (hn : n < 7) : f_X2_note k f g (Int32.ofNat n) = some (ring f g n) := by
  rw [f_X2_note, m_g hn (by omega), n_nat (by omega)]
  rfl
theorem HR.note {f hi : Nat → Int32} {g : Nat → Nat → Int32} {n h : Nat} (H : HR g n h hi) : HR (ring f g n) n h hi := by
  obtain ⟨h1, h2, h3⟩ := H
  refine ⟨h1, h2, fun j hj => ?_⟩
  unfold ring
  rw [if_neg (by omega)]
  exact h3 j hj
theorem s_settle {k n h : Nat} {r : Int32} (hn : n < 7) (hh : h ≤ 6) (hr : ¬ r < 0) : f_X2_settle k (Int32.ofNat n) (Int32.ofNat h) r = some (r, Int32.ofNat ((n + 1) % 7), Int32.ofNat (if h = 6 then 6 else h + 1)) := by
  have b24 : ∀ y, f_X2_settle_b24 k r (Int32.ofNat n) (Int32.ofNat h) y = some (r, y, Int32.ofNat (if h = 6 then 6 else h + 1)) := fun y => by
    rw [f_X2_settle_b24, zl_e, zl_e, zl_e, zl_e, n_suc]
    by_cases q : h = 6
    · subst q
      rw [if_pos (by decide), if_pos rfl]
      rfl
    · rw [if_neg (show ¬ (6 : Int32) < Int32.ofNat (h + 1) from fun t => absurd ((n_lt (a := 6) (by omega) (by omega)).mp t) (by omega)), if_neg q]
  rw [f_X2_settle, if_neg hr, b24, zl_e, b24]
  by_cases q : n = 6
  · subst q
    rw [if_pos (by decide)]
    rfl
  · rw [if_neg (show ¬ (6 : Int32) ≤ Int32.ofNat n from fun t => absurd ((n_le (a := 6) (by omega) (by omega)).mp t) (by omega)), n_suc, show (n + 1) % 7 = n + 1 by omega]
theorem s_settle_no {k : Nat} {nx hz r : Int32} (hr : r < 0) : f_X2_settle k nx hz r = some (r, nx, hz) := by
  rw [f_X2_settle, if_pos hr]
/-- a change: the class noted f, the reference looked at ms and recorded -/
theorem HR.put {f ms hi h1 ah : Nat → Int32} {g : Nat → Nat → Int32} {n h B O : Nat} (H : HR g n h hi) (R : Rel f ms B O) (ha : ∀ j, j < 324 → ah j = ms j)
    (r1 : h < 6 → (∀ j x, j < h → x < 324 → h1 (324 * j + x) = hi (324 * j + x)) ∧ ∀ x, x < 324 → h1 (324 * h + x) = ah x)
    (r2 : h = 6 → (∀ j x, j < 5 → x < 324 → h1 (324 * j + x) = hi (324 * (j + 1) + x)) ∧ ∀ x, x < 324 → h1 (324 * 5 + x) = ah x) : HR (ring f g n) ((n + 1) % 7) (if h = 6 then 6 else h + 1) h1 := by
  obtain ⟨b1, b2, b3⟩ := H
  by_cases q : h = 6
  · obtain ⟨c1, c2⟩ := r2 q
    rw [if_pos q]
    refine ⟨by omega, by omega, fun j hj => ?_⟩
    by_cases e : j = 5
    · subst e
      refine ⟨B, O, R.congr (fun i hi => ?_) (fun i hi => ?_)⟩
      · unfold ring
        rw [if_pos (by omega), cpy_e hi]
      · show h1 (324 * 5 + i) = ms i
        rw [c2 i hi, ha i hi]
    · obtain ⟨B', O', R'⟩ := b3 (j + 1) (by omega)
      refine ⟨B', O', R'.congr (fun i hi => ?_) (fun i hi => c1 j i (by omega) hi)⟩
      unfold ring
      rw [if_neg (by omega), show (n + 7 - h + (j + 1)) % 7 = ((n + 1) % 7 + 7 - 6 + j) % 7 by omega]
  · obtain ⟨c1, c2⟩ := r1 (by omega)
    rw [if_neg q]
    refine ⟨by omega, by omega, fun j hj => ?_⟩
    by_cases e : j = h
    · subst e
      refine ⟨B, O, R.congr (fun i hi => ?_) (fun i hi => ?_)⟩
      · unfold ring
        rw [if_pos (by omega), cpy_e hi]
      · show h1 (324 * j + i) = ms i
        rw [c2 i hi, ha i hi]
    · obtain ⟨B', O', R'⟩ := b3 j (by omega)
      refine ⟨B', O', R'.congr (fun i hi => ?_) (fun i hi => c1 j i (by omega) hi)⟩
      unfold ring
      rw [if_neg (by omega), show (n + 7 - h + j) % 7 = ((n + 1) % 7 + 7 - (h + 1) + j) % 7 by omega]
/-! undo -/
theorem undo_loop {k h : Nat} {hi : Nat → Int32} {kp : Int32} (ek : kp = Int32.ofNat h) (hh : h < 6) : ∀ n i (ms : Nat → Int32), i ≤ 324 → 324 - i < n → ∃ m1, f_X8_undo_b22 k hi n ms kp (Int32.ofNat i) = some (kp, m1, kp) ∧ (∀ x, x < i → m1 x = ms x) ∧ ∀ j, i ≤ j → j < 324 → m1 j = hi (324 * h + j) := by
  intro n
  induction n with
  | zero => intro i _ _ h; omega
  | succ n ih =>
    intro i ms hi' hn
    rw [f_X8_undo_b22]
    by_cases c : i < 324
    · rw [if_neg (n_324 c), zl_e, zl_e, ek, n_324m, m_rd (by omega) (by omega), m_wr c (by omega), zl_e, n_suc, ← ek]
      obtain ⟨m1, e, lo, up⟩ := ih (i + 1) (upd ms i (hi (324 * h + i))) (by omega) (by omega)
      refine ⟨m1, e, fun x hx => ?_, fun j j1 j2 => ?_⟩
      · rw [lo x (by omega), upd_ne (by omega)]
      · by_cases q : j = i
        · subst q; rw [lo _ (by omega), upd_at]
        · exact up j (by omega) j2
    · have : i = 324 := by omega
      subst this
      rw [if_pos (by decide)]
      exact ⟨ms, rfl, fun _ _ => rfl, fun j h1 h2 => by omega⟩
theorem op_undo {k n h B O : Nat} {f ms hi : Nat → Int32} {g : Nat → Nat → Int32} (hk : 2000 ≤ k) (R : Rel f ms B O) (H : HR g n h hi) :
    ∃ r f1 n1 h1 m1 B1 O1, f_X7_undo k f g (Int32.ofNat n) (Int32.ofNat h) = some (r, f1, Int32.ofNat n1, Int32.ofNat h1) ∧ f_X8_undo k ms hi (Int32.ofNat h) = some (r, m1, Int32.ofNat h1) ∧ Rel f1 m1 B1 O1 ∧ HR g n1 h1 hi := by
  have H0 := H
  obtain ⟨b1, b2, b3⟩ := H
  by_cases q : h = 0
  · subst q
    exact ⟨-5, f, n, 0, ms, B, O, by rw [f_X7_undo, f_X2_goBack, if_pos (by decide)]; rfl, by rw [f_X8_undo, if_pos (by decide)], R, H0⟩
  · obtain ⟨h', rfl⟩ : ∃ h', h = h' + 1 := ⟨h - 1, by omega⟩
    have nq : ¬ Int32.ofNat (h' + 1) = 0 := fun t => q ((n_inj (b := 0) (by omega) (by omega)).mp t)
    have ep : Int32.ofNat (h' + 1) - 1 = Int32.ofNat h' := n_sub (a := h' + 1) (b := 1) (by omega)
    have b29 : ∀ y, y < 7 → f_X2_goBack_b29 k f g (Int32.ofNat (h' + 1)) (Int32.ofNat y) = some (Int32.ofNat h', va_cpy (g y) f 0 0 344, Int32.ofNat y, Int32.ofNat h') := fun y hy => by
      rw [f_X2_goBack_b29, zl_e, zl_e, ep, m_g hy (by omega), n_nat (by omega)]
    have e1 : f_X2_goBack k f g (Int32.ofNat n) (Int32.ofNat (h' + 1)) = some (Int32.ofNat h', va_cpy (g ((n + 6) % 7)) f 0 0 344, Int32.ofNat ((n + 6) % 7), Int32.ofNat h') := by
      rw [f_X2_goBack, if_neg nq]
      by_cases c : n = 0
      · subst c
        rw [if_pos (by decide)]
        exact b29 6 (by omega)
      · rw [if_neg (show ¬ Int32.ofNat n ≤ 0 from fun t => absurd ((n_le (b := 0) (by omega) (by omega)).mp t) (by omega)), zl_e, show Int32.ofNat n - 1 = Int32.ofNat (n - 1) from n_sub (b := 1) (by omega), b29 _ (by omega), show (n + 6) % 7 = n - 1 by omega]
    obtain ⟨m1, e2, -, up⟩ := undo_loop (k := k) (h := h') (hi := hi) (kp := Int32.ofNat h') rfl (by omega) k 0 ms (by omega) (by omega)
    obtain ⟨B1, O1, R1⟩ := b3 h' (by omega)
    refine ⟨Int32.ofNat h', _, (n + 6) % 7, h', m1, B1, O1, by rw [f_X7_undo, e1, zb4_some], ?_, R1.congr (fun i hi => ?_) (fun i hi => up i (by omega) hi), by omega, by omega, fun j hj => ?_⟩
    · rw [f_X8_undo, if_neg nq, zl_e, zl_e, ep]
      exact e2
    · rw [cpy_e hi, show (n + 7 - (h' + 1) + h') % 7 = (n + 6) % 7 by omega]
    · obtain ⟨B2, O2, R2⟩ := b3 j (by omega)
      rw [show ((n + 6) % 7 + 7 - h' + j) % 7 = (n + 7 - (h' + 1) + j) % 7 by omega]
      exact ⟨B2, O2, R2⟩
