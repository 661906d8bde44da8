/-! THE REFERENCE'S ORDERS -/
theorem m_in {k : Nat} {x a b : Int32} : f_X8_in k x a b = some (if ¬ x < a ∧ ¬ b < x then 1 else 0) := by
  rw [f_X8_in]
  by_cases h : x < a
  · simp [h]
  · by_cases h1 : b < x <;> simp [h, h1]
theorem i_le {a b : Int32} : a ≤ b ↔ a.toInt ≤ b.toInt := Int32.le_iff_toInt_le
theorem i_lt {a b : Int32} : a < b ↔ a.toInt < b.toInt := Int32.lt_iff_toInt_lt
theorem i_eq {a b : Int32} : a = b ↔ a.toInt = b.toInt := Int32.toInt_inj.symm
theorem flag {A : Prop} [Decidable A] : ((if A then (1 : Int32) else 0) = 0) ↔ ¬ A := by
  by_cases h : A <;> simp [h]
theorem srt_hi (a b c : Int32) : (if c ≤ (if a ≤ b then b else a) then (if a ≤ b then b else a) else c) = zmx a (zmx b c) := by
  unfold zmx
  simp only [i_le, i_lt]
  split <;> split <;> split <;> split <;> first | rfl | (rw [i_eq]; omega)
theorem srt_lo (a b c : Int32) : (if (if a ≤ b then a else b) ≤ c then (if a ≤ b then a else b) else c) = zmn a (zmn b c) := by
  unfold zmn
  simp only [i_le, i_lt]
  split <;> split <;> split <;> split <;> first | rfl | (rw [i_eq]; omega)
theorem m_sorts {k : Nat} {so : Nat → Int32} {a b c : Int32} : ∃ s1 : Nat → Int32, f_X8_sorts k so a b c = some s1 ∧ s1 0 = zmx a (zmx b c) ∧ s1 1 = a + b + c - zmx a (zmx b c) - zmn a (zmn b c) ∧ s1 2 = zmn a (zmn b c) := by
  have e : f_X8_sorts k so a b c = some (upd (upd (upd so 0 (if c ≤ (if a ≤ b then b else a) then (if a ≤ b then b else a) else c)) 2 (if (if a ≤ b then a else b) ≤ c then (if a ≤ b then a else b) else c)) 1 (a + b + c - (if c ≤ (if a ≤ b then b else a) then (if a ≤ b then b else a) else c) - (if (if a ≤ b then a else b) ≤ c then (if a ≤ b then a else b) else c))) := by
    rw [f_X8_sorts]
    simp only [f_X8_sorts_b10, f_X8_sorts_b22, f_X8_sorts_b41, f_X8_sorts_b59]
    have z0 : zin (0 : Int32) 3 = true := rfl
    have z2 : zin (2 : Int32) 3 = true := rfl
    have t0 : (0 : Int32).toNatClampNeg = 0 := rfl
    have t2 : (2 : Int32).toNatClampNeg = 2 := rfl
    simp only [z0, z2, t0, t2, zl_e, zg_true]
    have u1 : ∀ (x y : Int32), upd (upd so 0 x) 2 y 0 = x := fun x y => by simp [upd]
    have u2 : ∀ (x y : Int32), upd (upd so 0 x) 2 y 2 = y := fun x y => by simp [upd]
    simp only [u1, u2]
    split <;> split <;> split <;> rfl
  rw [srt_hi, srt_lo] at e
  exact ⟨_, e, by simp [upd], by simp [upd], by simp [upd]⟩
theorem m_excess {k o : Nat} {ms so : Nat → Int32} {a b c : Int32} (hk : 25 ≤ k) (ho : o < 10) : ∃ s1 : Nat → Int32, f_X8_excess k ms so (Int32.ofNat o) a b c = some (zsur (ms 3) (ms (252 + 6 * o + 0)) (ms (252 + 6 * o + 1)) (ms (252 + 6 * o + 2)) a b c, s1) := by
  obtain ⟨s1, e, h0, h1, h2⟩ := m_sorts (k := k) (so := so) (a := a) (b := b) (c := c)
  refine ⟨s1, ?_⟩
  rw [f_X8_excess, e, zb1_some]
  obtain ⟨n, rfl⟩ : ∃ n, k = n + 4 := ⟨k - 4, by omega⟩
  have st : ∀ (m j : Nat) (x6 x5 : Int32), j < 3 → f_X8_excess_b17 (n + 4) ms (Int32.ofNat o) a b c (m + 1) s1 x5 x6 (Int32.ofNat j) = f_X8_excess_b17 (n + 4) ms (Int32.ofNat o) a b c m s1 (x5 + (s1 j - ms (252 + 6 * o + j))) (if ¬ x6 = 0 ∧ ¬ (s1 j - ms (252 + 6 * o + j)) < 0 ∧ ¬ ms 3 < (s1 j - ms (252 + 6 * o + j)) then 1 else 0) (Int32.ofNat (j + 1)) := by
    intro m j x6 x5 hj
    rw [f_X8_excess_b17, if_neg (show ¬ (3 : Int32) ≤ Int32.ofNat j from fun q => absurd ((n_le (a := 3) (by omega) (by omega)).mp q) (by omega)), m_oat]
    simp (disch := omega) only [zl_e, zb1_some, zb2_some, zb3_some, zb4_some, zb5_some, m_g, n_nat, n_suc, m_in]
    simp only [f_X8_excess_b69]
    simp (disch := omega) only [zl_e, zb1_some, zb2_some, zb3_some, zb4_some, zb5_some, m_g, n_nat, n_suc]
    by_cases h : x6 = 0
    · rw [if_pos h, if_neg (fun q => q.1 h)]
    · rw [if_neg h]
      by_cases h3 : ¬ s1 j - ms (252 + 6 * o + j) < 0 ∧ ¬ ms 3 < s1 j - ms (252 + 6 * o + j)
      · rw [if_pos h3, if_neg n10, if_pos ⟨h, h3⟩]
      · rw [if_neg h3, if_pos rfl, if_neg (fun q => h3 q.2)]
  have s0 := st (n + 3) 0 1 0 (by omega)
  rw [show Int32.ofNat 0 = 0 from rfl] at s0
  rw [s0, st (n + 2) 1 _ _ (by omega), st (n + 1) 2 _ _ (by omega), f_X8_excess_b17, if_pos (by decide)]
  rw [h0, h1, h2]
  unfold zsur
  generalize zmx a (zmx b c) - ms (252 + 6 * o + 0) = x
  generalize a + b + c - zmx a (zmx b c) - zmn a (zmn b c) - ms (252 + 6 * o + 1) = y
  generalize zmn a (zmn b c) - ms (252 + 6 * o + 2) = z
  simp only [flag, Decidable.not_not]
  by_cases q : (¬ x < 0 ∧ ¬ ms 3 < x) ∧ (¬ y < 0 ∧ ¬ ms 3 < y) ∧ (¬ z < 0 ∧ ¬ ms 3 < z)
  · rw [if_pos q, if_neg (fun r => r ⟨⟨⟨n10, q.1⟩, q.2.1⟩, q.2.2⟩), Int32.zero_add]
  · rw [if_neg q, if_pos (fun r => q ⟨r.1.1.2, r.1.2, r.2⟩)]
/-- by how much a block is more than an order -/
def mexc (ms : Nat → Int32) (o b : Nat) : Int32 :=
  if ms (12 + 10 * b + 6) = 1 then -6 else zsur (ms 3) (ms (252 + 6 * o + 0)) (ms (252 + 6 * o + 1)) (ms (252 + 6 * o + 2)) (ms (12 + 10 * b + 0)) (ms (12 + 10 * b + 1)) (ms (12 + 10 * b + 2))
def mgiv (ms : Nat → Int32) (o b : Nat) : Int32 :=
  if ms (252 + 6 * o + 3) = 0 ∧ ¬ ms (12 + 10 * b + 4) = 3 ∧ ¬ ms (12 + 10 * b + 4) = 4 ∧ ms (12 + 10 * b + 7) = -6 then mexc ms o b else -6
theorem m_exc {k o b : Nat} {ms so : Nat → Int32} (hk : 25 ≤ k) (ho : o < 10) (hb : b < 24) : ∃ s1 : Nat → Int32, f_X8_excessOf k ms so (Int32.ofNat o) (Int32.ofNat b) = some (mexc ms o b, s1) := by
  rw [f_X8_excessOf, m_at6, m_at0, m_at1, m_at2]
  simp (disch := omega) only [zl_e, zb1_some, zb2_some, zb3_some, zb4_some, zb5_some, m_g, n_nat, n_suc]
  unfold mexc
  by_cases h : ms (12 + 10 * b + 6) = 1
  · exact ⟨so, by rw [if_pos h, if_pos h]⟩
  · obtain ⟨s1, e⟩ := m_excess (k := k) (ms := ms) (so := so) (a := ms (12 + 10 * b + 0)) (b := ms (12 + 10 * b + 1)) (c := ms (12 + 10 * b + 2)) hk ho
    exact ⟨s1, by rw [if_neg h, if_neg h, e, zb2_some]⟩
theorem m_giv {k o b : Nat} {ms so : Nat → Int32} (hk : 25 ≤ k) (ho : o < 10) (hb : b < 24) : ∃ s1 : Nat → Int32, f_X8_canGive k ms so (Int32.ofNat o) (Int32.ofNat b) = some (if mgiv ms o b = -6 then 0 else 1, s1) := by
  rw [f_X8_canGive, m_at7, m_isAt hb, m_isAt hb]
  simp (disch := omega) only [zl_e, zb1_some, zb2_some, zb3_some, zb4_some, zb5_some, m_g, n_nat, n_suc]
  simp only [f_X8_canGive_b39, m_oat3]
  simp (disch := omega) only [zl_e, zb1_some, zb2_some, zb3_some, zb4_some, zb5_some, m_g, n_nat, n_suc]
  obtain ⟨s1, e⟩ := m_exc (k := k) (ms := ms) (so := so) hk ho hb
  by_cases h1 : ms (252 + 6 * o + 3) = 0
  · by_cases h2 : ms (12 + 10 * b + 4) = 3
    · refine ⟨so, ?_⟩
      have v : mgiv ms o b = -6 := if_neg (fun q => q.2.1 h2)
      rw [if_pos h2, if_neg n10, if_pos h1, v]
      simp
    · by_cases h3 : ms (12 + 10 * b + 4) = 4
      · refine ⟨so, ?_⟩
        have v : mgiv ms o b = -6 := if_neg (fun q => q.2.2.1 h3)
        rw [if_neg h2, if_pos rfl, if_pos h3, if_neg n10, if_pos h1, v]
        simp
      · by_cases h4 : ms (12 + 10 * b + 7) = -6
        · refine ⟨s1, ?_⟩
          have v : mgiv ms o b = mexc ms o b := if_pos ⟨h1, h2, h3, h4⟩
          rw [if_pos h4, if_neg h2, if_pos rfl, if_neg h3, if_pos rfl, if_pos h1, if_neg n10, e, zb2_some, v]
          by_cases h5 : mexc ms o b = -6
          · rw [if_pos h5, if_pos h5]
          · rw [if_neg h5, if_neg h5]
        · refine ⟨so, ?_⟩
          have v : mgiv ms o b = -6 := if_neg (fun q => h4 q.2.2.2)
          rw [if_neg h4, if_pos h1, v]
          simp
  · refine ⟨so, ?_⟩
    have v : mgiv ms o b = -6 := if_neg (fun q => h1 q.1)
    rw [v]
    simp only [if_neg h1]
    simp
theorem m_could_loop {k o : Nat} {ms : Nat → Int32} {B O : Nat} (c : MI ms B O) (hk : 25 ≤ k) (ho : o < 10) : ∀ n i so, i ≤ B → B - i < n → ∃ s1 : Nat → Int32, f_X8_couldBeGiven_b4 k ms (Int32.ofNat o) n so (zbs (fun b => !decide (mgiv ms o b = -6)) i) (Int32.ofNat i) = some (zbs (fun b => !decide (mgiv ms o b = -6)) B, s1) := by
  have hB := c.hB
  intro n
  induction n with
  | zero => intro i _ _ h; omega
  | succ n ih =>
    intro i so hi hn
    rw [f_X8_couldBeGiven_b4]
    simp only [zl_e]
    rw [c.m5]
    by_cases h : i < B
    · rw [if_neg (fun q => absurd ((n_le (by omega) (by omega)).mp q) (by omega))]
      obtain ⟨s2, e⟩ := m_giv (k := k) (ms := ms) (so := so) hk ho (show i < 24 by omega)
      obtain ⟨s1, this⟩ := ih (i + 1) s2 (by omega) (by omega)
      refine ⟨s1, ?_⟩
      rw [zbs] at this
      rw [e, zb2_some]
      simp only [f_X8_couldBeGiven_b31, zl_e, n_suc, Int32.or_zero]
      by_cases hq : mgiv ms o i = -6
      · rw [if_neg (by simpa using hq)] at this
        rw [if_pos hq, if_pos rfl]
        exact this
      · rw [if_pos (by simpa using hq)] at this
        rw [if_neg hq, if_neg n10]
        exact this
    · have : i = B := by omega
      subst this
      exact ⟨so, by rw [if_pos ((n_le (by omega) (by omega)).mpr (Nat.le_refl _))]⟩
theorem m_could {k o : Nat} {ms so : Nat → Int32} {B O : Nat} (c : MI ms B O) (hk : 25 ≤ k) (ho : o < 10) : ∃ s1 : Nat → Int32, f_X8_couldBeGiven k ms so (Int32.ofNat o) = some (zbs (fun b => !decide (mgiv ms o b = -6)) B, s1) := by
  rw [f_X8_couldBeGiven]
  exact m_could_loop c hk ho k 0 so (by omega) (by have := c.hB; omega)
