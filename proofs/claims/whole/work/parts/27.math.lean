/-! THE FITTING CUT -/
/-- by how much a first piece would be more than an order -/
def zlen (f : Nat → Int32) (o b a len : Nat) : Int32 :=
  zsur (f 3) (f (272 + o * 6 + 0)) (f (272 + o * 6 + 1)) (f (272 + o * 6 + 2)) (if a = 0 then Int32.ofNat len else f (8 + b * 11 + 0)) (if a = 1 then Int32.ofNat len else f (8 + b * 11 + 1)) (if a = 2 then Int32.ofNat len else f (8 + b * 11 + 2))
/-- whether it fits; s the size across, w the saw's width -/
def zfit (f : Nat → Int32) (o b a len : Nat) : Prop :=
  f (8 + b * 11 + 7) = 0 ∧ (len : Int) ≤ (f (8 + b * 11 + a)).toInt - (f 0).toInt - 1 ∧ ¬ zlen f o b a len = -6
/-- what holds of a block's sizes and the saw -/
def zsaw (f : Nat → Int32) (b : Nat) : Prop := 0 ≤ (f 0).toInt ∧ (f 0).toInt ≤ 9 ∧ ∀ a, a < 3 → 1 ≤ (f (8 + b * 11 + a)).toInt ∧ (f (8 + b * 11 + a)).toInt ≤ 300
theorem i_sub {a b : Int32} (h : -2147483648 ≤ a.toInt - b.toInt) (h' : a.toInt - b.toInt < 2147483648) : (a - b).toInt = a.toInt - b.toInt := by
  rw [Int32.toInt_sub]
  exact Int.bmod_eq_of_le (by omega) (by omega)
theorem i_add {a b : Int32} (h : -2147483648 ≤ a.toInt + b.toInt) (h' : a.toInt + b.toInt < 2147483648) : (a + b).toInt = a.toInt + b.toInt := by
  rw [Int32.toInt_add]
  exact Int.bmod_eq_of_le (by omega) (by omega)
theorem i_nat {a : Nat} (h : a < 2147483648) : (Int32.ofNat a).toInt = a := Int32.toInt_ofNat_of_lt h
theorem fl_loop {k o b a : Nat} {f : Nat → Int32} {most : Int32} (ho : o < 10) (ha : a < 3) (hm : most.toInt < 300) : ∀ (n len : Nat), 1 ≤ len → len ≤ 300 → 300 - len < n → (∀ j : Nat, 1 ≤ j → j < len → (j : Int) ≤ most.toInt → zlen f o b a j = -6) →
    ∃ r, f_X1_fittingLength_b74 k f (Int32.ofNat o) (Int32.ofNat b) (Int32.ofNat a) n most (f (8 + b * 11 + 0)) (f (8 + b * 11 + 1)) (f (8 + b * 11 + 2)) (Int32.ofNat len) = some r ∧
      ((r = -6 ∧ ∀ j : Nat, 1 ≤ j → (j : Int) ≤ most.toInt → zlen f o b a j = -6) ∨ ∃ j : Nat, 1 ≤ j ∧ (j : Int) ≤ most.toInt ∧ r = Int32.ofNat j ∧ ¬ zlen f o b a j = -6 ∧ ∀ i : Nat, 1 ≤ i → i < j → zlen f o b a i = -6) := by
  intro n
  induction n with
  | zero => intro len _ _ h; omega
  | succ n ih =>
    intro len h1 h2 hn hI
    by_cases hl : most < Int32.ofNat len
    · rw [f_X1_fittingLength_b74, if_pos hl]
      rw [i_lt, i_nat (by omega)] at hl
      exact ⟨-6, rfl, .inl ⟨rfl, fun j q1 q2 => hI j q1 (by omega) q2⟩⟩
    · have hs : f_X1_fittingLength_b74 k f (Int32.ofNat o) (Int32.ofNat b) (Int32.ofNat a) (n + 1) most (f (8 + b * 11 + 0)) (f (8 + b * 11 + 1)) (f (8 + b * 11 + 2)) (Int32.ofNat len) = if zlen f o b a len = -6 then f_X1_fittingLength_b74 k f (Int32.ofNat o) (Int32.ofNat b) (Int32.ofNat a) n most (f (8 + b * 11 + 0)) (f (8 + b * 11 + 1)) (f (8 + b * 11 + 2)) (Int32.ofNat (len + 1)) else some (Int32.ofNat len) := by
        rw [f_X1_fittingLength_b74, if_neg hl]
        simp only [f_X1_fittingLength_b118, s_surplus ho]
        simp (disch := omega) only [zl_e, zb1_some, zb2_some, zb3_some, zb4_some, zb5_some, m_g, n_nat, n_suc]
        have c : a = 0 ∨ a = 1 ∨ a = 2 := by omega
        unfold zlen
        rcases c with rfl | rfl | rfl
        · rfl
        · rfl
        · rfl
      rw [hs]
      rw [i_lt, i_nat (by omega)] at hl
      by_cases hz : zlen f o b a len = -6
      · rw [if_pos hz]
        exact ih (len + 1) (by omega) (by omega) (by omega) (fun j q1 q2 q3 => by
          by_cases q : j = len
          · rw [q]; exact hz
          · exact hI j q1 (by omega) q3)
      · rw [if_neg hz]
        exact ⟨_, rfl, .inr ⟨len, h1, by omega, rfl, hz, fun i q1 q2 => hI i q1 q2 (by omega)⟩⟩
theorem s_fl {k o b a : Nat} {f : Nat → Int32} (hk : 400 ≤ k) (ho : o < 10) (hb : b < 24) (ha : a < 3) (hw : zsaw f b) :
    ∃ r, f_X1_fittingLength k f (Int32.ofNat o) (Int32.ofNat b) (Int32.ofNat a) = some r ∧
      ((r = -6 ∧ ∀ j, 1 ≤ j → ¬ zfit f o b a j) ∨ ∃ j, 1 ≤ j ∧ j < 300 ∧ r = Int32.ofNat j ∧ zfit f o b a j ∧ ∀ i : Nat, 1 ≤ i → i < j → ¬ zfit f o b a i) := by
  obtain ⟨w0, w9, hs⟩ := hw
  obtain ⟨s0, s1⟩ := hs a ha
  rw [f_X1_fittingLength, s_blk7 hb, zb1_some]
  by_cases hc : f (8 + b * 11 + 7) = 0
  · rw [if_pos hc, s_blk hb (by omega), s_cell0, s_blk0 hb, s_blk1 hb, s_blk2 hb]
    simp (disch := omega) only [zl_e, zb1_some, zb2_some, zb3_some, zb4_some, zb5_some, m_g, n_nat, n_suc]
    have e1 : (f (8 + b * 11 + a) - f 0).toInt = (f (8 + b * 11 + a)).toInt - (f 0).toInt := i_sub (by omega) (by omega)
    have t1 : (1 : Int32).toInt = 1 := by decide
    have e2 : (f (8 + b * 11 + a) - f 0 - 1).toInt = (f (8 + b * 11 + a)).toInt - (f 0).toInt - 1 := by
      rw [i_sub (by omega) (by omega), e1, t1]
    obtain ⟨r, h1, h2⟩ := fl_loop (k := k) (o := o) (b := b) (a := a) (f := f) (most := f (8 + b * 11 + a) - f 0 - 1) ho ha (by omega) k 1 (by omega) (by omega) (by omega) (fun j q1 q2 => by omega)
    refine ⟨r, h1, ?_⟩
    rw [e2] at h2
    rcases h2 with ⟨e, h2⟩ | ⟨j, q1, q2, q3, q4, q5⟩
    · exact .inl ⟨e, fun j q1 q2 => q2.2.2 (h2 j q1 q2.2.1)⟩
    · exact .inr ⟨j, q1, by omega, q3, ⟨hc, q2, q4⟩, fun i r1 r2 r3 => r3.2.2 (q5 i r1 r2)⟩
  · rw [if_neg hc]
    exact ⟨-6, rfl, .inl ⟨rfl, fun j _ q => hc q.1⟩⟩
/-- the answer: the first of 900 places that fits -/
def Fst (P : Nat → Prop) (w : Int32) (r : Int32) : Prop :=
  (r = -6 ∧ ∀ j, j < 900 → ¬ P j) ∨ ∃ j, j < 900 ∧ P j ∧ (∀ i, i < j → ¬ P i) ∧ r = if w = 0 then Int32.ofNat (j / 300) else Int32.ofNat (1 + j % 300)
theorem Fst.uniq {P Q : Nat → Prop} {w r r' : Int32} (h : Fst P w r) (h' : Fst Q w r') (e : ∀ j, j < 900 → (P j ↔ Q j)) : r = r' := by
  rcases h with ⟨e1, h⟩ | ⟨j, h1, h2, h3, h4⟩
  · rcases h' with ⟨e2, h'⟩ | ⟨j', h1', h2', h3', h4'⟩
    · rw [e1, e2]
    · exact absurd ((e j' h1').mpr h2') (h j' h1')
  · rcases h' with ⟨e2, h'⟩ | ⟨j', h1', h2', h3', h4'⟩
    · exact absurd ((e j h1).mp h2) (h' j h1)
    · have : j = j' := by
        rcases Nat.lt_trichotomy j j' with q | q | q
        · exact absurd ((e j h1).mp h2) (h3' j q)
        · exact q
        · exact absurd ((e j' h1').mpr h2') (h3 j' q)
      rw [h4, h4', this]
theorem fc_loop {k o b : Nat} {f : Nat → Int32} {w : Int32} (hk : 400 ≤ k) (ho : o < 10) (hb : b < 24) (hw : zsaw f b) : ∀ n a, a ≤ 3 → 3 - a < n → (∀ j, j < 300 * a → ¬ zfit f o b (j / 300) (1 + j % 300)) →
    ∃ r, f_X7_fittingCut_b53 k f (Int32.ofNat o) (Int32.ofNat b) w n (Int32.ofNat a) = some r ∧ Fst (fun j => zfit f o b (j / 300) (1 + j % 300)) w r := by
  intro n
  induction n with
  | zero => intro a _ h; omega
  | succ n ih =>
    intro a ha hn hI
    rw [f_X7_fittingCut_b53]
    by_cases h : a < 3
    · rw [if_neg (show ¬ (3 : Int32) ≤ Int32.ofNat a from fun q => absurd ((n_le (a := 3) (by omega) (by omega)).mp q) (by omega))]
      obtain ⟨r, h1, h2⟩ := s_fl (k := k) (f := f) hk ho hb h hw
      rw [h1]
      simp (disch := omega) only [zl_e, zb1_some, zb2_some, zb3_some, zb4_some, zb5_some, m_g, n_nat, n_suc]
      rcases h2 with ⟨e, h2⟩ | ⟨j, q1, q2, q3, q4, q5⟩
      · rw [if_pos e]
        refine ih (a + 1) (by omega) (by omega) (fun j hj => ?_)
        by_cases q : j < 300 * a
        · exact hI j q
        · rw [show j / 300 = a by omega]
          exact h2 _ (by omega)
      · rw [if_neg (by rw [q3]; exact n_neg6 (by omega))]
        have d1 : (300 * a + (j - 1)) / 300 = a := by omega
        have d2 : 1 + (300 * a + (j - 1)) % 300 = j := by omega
        refine ⟨if w = 0 then Int32.ofNat a else Int32.ofNat j, by rw [q3]; split <;> rfl, .inr ⟨300 * a + (j - 1), by omega, by show zfit f o b _ _; rw [d1, d2]; exact q4, fun i hi => ?_, by rw [d1, d2]⟩⟩
        by_cases q : i < 300 * a
        · exact hI i q
        · show ¬ zfit f o b _ _
          rw [show i / 300 = a by omega]
          exact q5 _ (by omega) (by omega)
    · have : a = 3 := by omega
      subst this
      rw [if_pos (by decide)]
      exact ⟨-6, rfl, .inl ⟨rfl, fun j hj => hI j (by omega)⟩⟩
/-! the reference's -/
def mlen (ms : Nat → Int32) (o b a len : Nat) : Int32 :=
  zsur (ms 3) (ms (252 + 6 * o + 0)) (ms (252 + 6 * o + 1)) (ms (252 + 6 * o + 2)) (if a = 0 then Int32.ofNat len else ms (12 + 10 * b + 0)) (if a = 1 then Int32.ofNat len else ms (12 + 10 * b + 1)) (if a = 2 then Int32.ofNat len else ms (12 + 10 * b + 2))
def mfit (ms : Nat → Int32) (o b a len : Nat) : Prop :=
  ¬ (ms (12 + 10 * b + a) - Int32.ofNat len - ms 0 < 1) ∧ ms (12 + 10 * b + 6) = 0 ∧ ¬ mlen ms o b a len = -6
theorem m_fit {k o b a len : Nat} {ms so : Nat → Int32} (hk : 25 ≤ k) (ho : o < 10) (hb : b < 24) (ha : a < 3) : ∃ s1, (mfit ms o b a len ∧ f_X8_isFitting k ms so (Int32.ofNat o) (Int32.ofNat b) (Int32.ofNat a) (Int32.ofNat len) = some (1, s1)) ∨ (¬ mfit ms o b a len ∧ f_X8_isFitting k ms so (Int32.ofNat o) (Int32.ofNat b) (Int32.ofNat a) (Int32.ofNat len) = some (0, s1)) := by
  have e : f_X8_isFitting k ms so (Int32.ofNat o) (Int32.ofNat b) (Int32.ofNat a) (Int32.ofNat len) = f_X8_isFitting_b63 k ms (Int32.ofNat o) (Int32.ofNat b) (Int32.ofNat a) (Int32.ofNat len) so (if a = 0 then Int32.ofNat len else ms (12 + 10 * b + 0)) (if a = 1 then Int32.ofNat len else ms (12 + 10 * b + 1)) (if a = 2 then Int32.ofNat len else ms (12 + 10 * b + 2)) := by
    rw [f_X8_isFitting]
    simp only [f_X8_isFitting_b19, f_X8_isFitting_b41, m_at0, m_at1, m_at2]
    simp (disch := omega) only [zl_e, zb1_some, zb2_some, zb3_some, zb4_some, zb5_some, m_g, n_nat, n_suc]
    have c : a = 0 ∨ a = 1 ∨ a = 2 := by omega
    rcases c with rfl | rfl | rfl
    · rfl
    · rfl
    · rfl
  obtain ⟨s1, e1⟩ := m_excess (k := k) (ms := ms) (so := so) (a := if a = 0 then Int32.ofNat len else ms (12 + 10 * b + 0)) (b := if a = 1 then Int32.ofNat len else ms (12 + 10 * b + 1)) (c := if a = 2 then Int32.ofNat len else ms (12 + 10 * b + 2)) hk ho
  rw [e, f_X8_isFitting_b63, m_at, m_at6, e1]
  simp (disch := omega) only [zl_e, zb1_some, zb2_some, zb3_some, zb4_some, zb5_some, m_g, n_nat, n_suc]
  have e2 : zsur (ms 3) (ms (252 + 6 * o + 0)) (ms (252 + 6 * o + 1)) (ms (252 + 6 * o + 2)) (if a = 0 then Int32.ofNat len else ms (12 + 10 * b + 0)) (if a = 1 then Int32.ofNat len else ms (12 + 10 * b + 1)) (if a = 2 then Int32.ofNat len else ms (12 + 10 * b + 2)) = mlen ms o b a len := rfl
  rw [e2]
  by_cases h1 : ms (12 + 10 * b + a) - Int32.ofNat len - ms 0 < 1
  · rw [if_pos h1, if_pos trivial]
    exact ⟨so, .inr ⟨fun q => q.1 h1, rfl⟩⟩
  · rw [if_neg h1, if_neg n10]
    by_cases h2 : ms (12 + 10 * b + 6) = 0
    · rw [if_pos h2]
      by_cases h3 : mlen ms o b a len = -6
      · rw [if_pos h3]
        exact ⟨s1, .inr ⟨fun q => q.2.2 h3, rfl⟩⟩
      · rw [if_neg h3]
        exact ⟨s1, .inl ⟨⟨h1, h2, h3⟩, rfl⟩⟩
    · rw [if_neg h2]
      exact ⟨so, .inr ⟨fun q => h2 q.2.1, rfl⟩⟩
theorem d_300 : ∀ j, j < 900 → Int32.ofNat j / 300 = Int32.ofNat (j / 300) ∧ Int32.ofNat j - Int32.ofNat j / 300 * 300 = Int32.ofNat (j % 300) := by decide +kernel
theorem m_fc_loop {k o b : Nat} {ms : Nat → Int32} {w : Int32} (hk : 25 ≤ k) (ho : o < 10) (hb : b < 24) : ∀ n i so, i ≤ 900 → 900 - i < n → (∀ j, j < i → ¬ mfit ms o b (j / 300) (1 + j % 300)) →
    ∃ r s1, f_X8_fittingCut_b44 k ms (Int32.ofNat o) (Int32.ofNat b) w n so (Int32.ofNat i) = some (r, s1) ∧ Fst (fun j => mfit ms o b (j / 300) (1 + j % 300)) w r := by
  intro n
  induction n with
  | zero => intro i _ _ h; omega
  | succ n ih =>
    intro i so hi hn hI
    rw [f_X8_fittingCut_b44]
    by_cases h : i < 900
    · rw [if_neg (show ¬ (900 : Int32) ≤ Int32.ofNat i from fun q => absurd ((n_le (a := 900) (by omega) (by omega)).mp q) (by omega))]
      obtain ⟨d1, d2⟩ := d_300 i h
      rw [d2, d1]
      have d3 : (1 : Int32) + Int32.ofNat (i % 300) = Int32.ofNat (1 + i % 300) := n_add 1 _
      simp (disch := omega) only [zl_e, zb1_some, zb2_some, zb3_some, zb4_some, zb5_some, m_g, n_nat, n_suc]
      rw [d3]
      obtain ⟨s2, c | c⟩ := m_fit (k := k) (ms := ms) (so := so) (a := i / 300) (len := 1 + i % 300) hk ho hb (by omega)
      · rw [c.2, zb2_some, if_neg n10]
        refine ⟨if w = 0 then Int32.ofNat (i / 300) else Int32.ofNat (1 + i % 300), s2, by split <;> rfl, .inr ⟨i, h, c.1, hI, rfl⟩⟩
      · rw [c.2, zb2_some, if_pos rfl]
        refine ih (i + 1) s2 (by omega) (by omega) (fun j hj => ?_)
        by_cases q : j = i
        · rw [q]; exact c.1
        · exact hI j (by omega)
    · have : i = 900 := by omega
      subst this
      rw [if_pos (by decide)]
      exact ⟨-6, so, rfl, .inl ⟨rfl, hI⟩⟩
