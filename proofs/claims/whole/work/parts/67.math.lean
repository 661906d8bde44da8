/-! TEXTS: characters out of a number -/
def zX (x : Int64) : Nat := x.toUInt64.toNat
/-- the sign i from the last -/
def zch (x : Int64) (i : Nat) : Nat := zX x / 256 ^ i % 256
def zhi (x : Int64) (i : Nat) : Nat := zX x / 256 ^ i
theorem sh_8 : ∀ i, i < 8 → (((8 : Int32) * Int32.ofNat i).toInt64.toUInt64 &&& Int64.toUInt64 63) = UInt64.ofNat (8 * i) ∧ (UInt64.ofNat (8 * i)).toNat % 64 = 8 * i := by decide +kernel
theorem sh_n {x : Int64} {i : Nat} (hi : i < 8) : (x.toUInt64 >>> (((8 : Int32) * Int32.ofNat i).toInt64.toUInt64 &&& Int64.toUInt64 63)).toNat = zhi x i := by
  obtain ⟨e1, e2⟩ := sh_8 i hi
  rw [e1, UInt64.toNat_shiftRight, e2, Nat.shiftRight_eq_div_pow]
  unfold zhi zX
  rw [Nat.pow_mul]
theorem low_8 (y : UInt64) : (y.toInt64 &&& (255 : Int64)).toInt32 = Int32.ofNat (y.toNat % 256) := by
  apply Int32.toBitVec_inj.mp
  apply BitVec.eq_of_toNat_eq
  rw [Int64.toBitVec_toInt32, Int64.toBitVec_and, BitVec.signExtend_eq_setWidth_of_le _ (by omega), BitVec.toNat_setWidth, BitVec.toNat_and, UInt64.toBitVec_toInt64]
  have e1 : (255 : Int64).toBitVec.toNat = 2 ^ 8 - 1 := by decide
  rw [e1, Nat.and_two_pow_sub_one_eq_mod]
  have e2 : (Int32.ofNat (y.toNat % 256)).toBitVec.toNat = y.toNat % 256 := by
    show (BitVec.ofNat 32 (y.toNat % 256)).toNat = _
    rw [BitVec.toNat_ofNat]
    omega
  rw [e2]
  show y.toNat % 2 ^ 8 % 2 ^ 32 = _
  omega
theorem cmp_0 (y : UInt64) : lg_cmp y.toInt64 (0 : Int64) = 0 ↔ y.toNat = 0 := by
  have e : y.toInt64 = 0 ↔ y.toNat = 0 := by
    rw [← Int64.toBitVec_inj, UInt64.toBitVec_toInt64]
    constructor
    · intro h
      have := congrArg BitVec.toNat h
      exact this
    · intro h
      apply BitVec.eq_of_toNat_eq
      exact h
  rw [← e]
  unfold lg_cmp
  constructor
  · intro h
    split at h
    · exact absurd h (by decide)
    · split at h
      · assumption
      · exact absurd h (by decide)
  · intro h
    rw [h, if_neg (by decide), if_pos rfl]
theorem s_code {k i : Nat} {x : Int64} (hi : i < 8) : f_X3_code k x (Int32.ofNat i) = some (Int32.ofNat (zch x i)) := by
  rw [f_X3_code, zl_e, zl_e, zl_e, zl_e, low_8, sh_n hi]
  rfl
theorem zhi_S (x : Int64) (i : Nat) : zhi x (i + 1) = zhi x i / 256 := by
  unfold zhi
  rw [Nat.pow_succ, Nat.div_div_eq_div_mul]
theorem zhi_mono {x : Int64} {i j : Nat} (h : i ≤ j) (hz : zhi x i = 0) : zhi x j = 0 := by
  induction j with
  | zero => rw [show i = 0 by omega] at hz; exact hz
  | succ j ih =>
    by_cases q : i = j + 1
    · rw [← q]; exact hz
    · rw [zhi_S, ih (by omega)]
theorem zch_hi {x : Int64} {i : Nat} (h : zhi x i = 0) : zch x i = 0 := by
  show zhi x i % 256 = 0
  rw [h]
def chI (x : Int64) (i : Nat) : Prop := 33 ≤ zch x i ∧ zch x i ≤ 126
/-- m good signs, and nothing above -/
def Good (x : Int64) (m : Nat) : Prop := 1 ≤ m ∧ m ≤ 8 ∧ (∀ j, j < m → chI x j) ∧ (m = 8 ∨ zhi x m = 0)
theorem not_good {x : Int64} {i m : Nat} (hi : i < 8) (h : ∀ j, j < i → chI x j) (hn : ¬ chI x i) (hz : i = 0 ∨ zhi x i ≠ 0) : ¬ Good x m := by
  rintro ⟨g1, g2, g3, g4⟩
  by_cases c : m ≤ i
  · by_cases e : m = i
    · subst e
      rcases hz with q | q
      · omega
      · rcases g4 with r | r
        · omega
        · exact q r
    · have := h m (by omega)
      rcases g4 with r | r
      · omega
      · have z := zch_hi r
        unfold chI at this
        omega
  · exact hn (g3 i (by omega))
theorem app_loop {k : Nat} {x : Int64} {sg : Nat → Int32} {pl : Int32} : ∀ n i, i ≤ 8 → 8 - i < n → (∀ j, j < i → chI x j) →
    (∃ m, Good x m ∧ f_X3_append_b2 k x n sg pl (Int32.ofNat i) = f_X3_append_b70 k x sg pl (Int32.ofNat m)) ∨ ((∀ m, ¬ Good x m) ∧ f_X3_append_b2 k x n sg pl (Int32.ofNat i) = some (-2, sg, pl)) := by
  intro n
  induction n with
  | zero => intro i _ h; omega
  | succ n ih =>
    intro i hi hn hj
    rw [f_X3_append_b2]
    by_cases c : i = 8
    · subst c
      rw [if_pos (by decide), if_neg (by decide), if_pos (by decide)]
      exact .inl ⟨8, ⟨by omega, by omega, hj, .inl rfl⟩, rfl⟩
    · have n8 : ¬ (8 : Int32) ≤ Int32.ofNat i := fun r => absurd ((n_le (a := 8) (by omega) (by omega)).mp r) (by omega)
      have cl : zch x i < 256 := Nat.mod_lt _ (by omega)
      rw [if_neg n8, s_code (by omega), zb1_some]
      by_cases z : zch x i = 0
      · have nI : ¬ chI x i := fun r => by unfold chI at r; omega
        rw [if_pos (by rw [z]; rfl)]
        by_cases i0 : i = 0
        · subst i0
          rw [if_pos (by decide)]
          exact .inr ⟨fun m => not_good (by omega) hj nI (.inl rfl), rfl⟩
        · rw [if_neg (show ¬ Int32.ofNat i = 0 from fun r => i0 ((n_inj (b := 0) (by omega) (by omega)).mp r)), if_neg n8, zl_e, zl_e, zl_e]
          by_cases h0 : zhi x i = 0
          · rw [if_pos ((cmp_0 _).mpr (by rw [sh_n (by omega)]; exact h0))]
            exact .inl ⟨i, ⟨by omega, by omega, hj, .inr h0⟩, rfl⟩
          · rw [if_neg (fun r => h0 (by rw [← sh_n (by omega)]; exact (cmp_0 _).mp r))]
            exact .inr ⟨fun m => not_good (by omega) hj nI (.inr h0), rfl⟩
      · have h0 : zhi x i ≠ 0 := fun r => z (zch_hi r)
        rw [if_neg (show ¬ Int32.ofNat (zch x i) = 0 from fun r => z ((n_inj (b := 0) (by omega) (by omega)).mp r)), zb1_some]
        by_cases l33 : zch x i < 33
        · rw [if_pos (show Int32.ofNat (zch x i) < 33 from (n_lt (b := 33) (by omega) (by omega)).mpr l33)]
          exact .inr ⟨fun m => not_good (by omega) hj (fun r => by unfold chI at r; omega) (.inr h0), rfl⟩
        · rw [if_neg (show ¬ Int32.ofNat (zch x i) < 33 from fun r => l33 ((n_lt (b := 33) (by omega) (by omega)).mp r))]
          by_cases l126 : zch x i ≤ 126
          · rw [if_pos (show Int32.ofNat (zch x i) ≤ 126 from (n_le (b := 126) (by omega) (by omega)).mpr l126), zl_e, n_suc]
            exact ih (i + 1) (by omega) (by omega) (fun j h => by
              by_cases q : j = i
              · subst q; exact ⟨by omega, l126⟩
              · exact hj j (by omega))
          · rw [if_neg (show ¬ Int32.ofNat (zch x i) ≤ 126 from fun r => l126 ((n_le (b := 126) (by omega) (by omega)).mp r))]
            exact .inr ⟨fun m => not_good (by omega) hj (fun r => l126 r.2) (.inr h0), rfl⟩
/-! the reference's check -/
def zE (x : Int64) (k : Nat) : Prop := 0 < k ∧ zhi x k = 0
theorem put_st {k j n : Nat} {x : Int64} {pd : Nat → Int32} {ln many bad : Int32} (hj : j < 8) (hb : bad = 0 ∨ bad = 1) :
    (zE x j → f_X8_put_b8 k x (n + 1) pd ln many bad (Int32.ofNat j) = f_X8_put_b8 k x n pd ln many bad (Int32.ofNat (j + 1))) ∧
    (¬ zE x j → (chI x j → f_X8_put_b8 k x (n + 1) pd ln many bad (Int32.ofNat j) = f_X8_put_b8 k x n pd ln (many + 1) bad (Int32.ofNat (j + 1))) ∧ (¬ chI x j → f_X8_put_b8 k x (n + 1) pd ln many bad (Int32.ofNat j) = f_X8_put_b8 k x n pd ln (many + 1) 1 (Int32.ofNat (j + 1)))) := by
  have n8 : ¬ (8 : Int32) ≤ Int32.ofNat j := fun r => absurd ((n_le (a := 8) (by omega) (by omega)).mp r) (by omega)
  have cl : zch x j < 256 := Nat.mod_lt _ (by omega)
  have b80 : ∀ (x7 y0 : Int32), f_X8_put_b80 k x (f_X8_put_b8 k x n) pd ln many (Int32.ofNat j) x7 y0 = f_X8_put_b8 k x n pd ln (if x7 = 0 then many + 1 else many) y0 (Int32.ofNat (j + 1)) := fun x7 y0 => by
    rw [f_X8_put_b80, f_X8_put_b93, f_X8_put_b93, zl_e, zl_e, zl_e, zl_e, n_suc, Int32.add_zero]
    by_cases h : x7 = 0
    · rw [if_pos h, if_pos h]
    · rw [if_neg h, if_neg h]
  have hin : ∀ K : Int32 → Option (Int32 × (Nat → Int32) × Int32), zb1 (f_X8_in k (Int32.ofNat (zch x j)) 33 126) K = K (if ¬ Int32.ofNat (zch x j) < 33 ∧ ¬ (126 : Int32) < Int32.ofNat (zch x j) then 1 else 0) := fun K => by rw [m_in, zb1_some]
  have ii : (¬ Int32.ofNat (zch x j) < 33 ∧ ¬ (126 : Int32) < Int32.ofNat (zch x j)) ↔ chI x j := by
    rw [show (33 : Int32) = Int32.ofNat 33 from rfl, show (126 : Int32) = Int32.ofNat 126 from rfl, n_lt (by omega) (by omega), n_lt (by omega) (by omega)]
    unfold chI
    omega
  have ne : (if bad = 0 then (if (0 : Int32) = 0 then zb1 (f_X8_in k (Int32.ofNat (zch x j)) 33 126) (fun v19 => if v19 = 0 then f_X8_put_b80 k x (f_X8_put_b8 k x n) pd ln many (Int32.ofNat j) 0 1 else f_X8_put_b80 k x (f_X8_put_b8 k x n) pd ln many (Int32.ofNat j) 0 0) else f_X8_put_b80 k x (f_X8_put_b8 k x n) pd ln many (Int32.ofNat j) 0 0) else f_X8_put_b80 k x (f_X8_put_b8 k x n) pd ln many (Int32.ofNat j) 0 1) = f_X8_put_b8 k x n pd ln (many + 1) (if (33 ≤ zch x j ∧ zch x j ≤ 126) ∧ bad = 0 then 0 else 1) (Int32.ofNat (j + 1)) := by
    rw [b80, b80, if_pos rfl, if_pos rfl, hin]
    by_cases c : chI x j
    · rw [if_pos (ii.mpr c), if_neg n10]
      rcases hb with rfl | rfl
      · rw [if_pos rfl, if_pos ⟨c, rfl⟩]
      · rw [if_neg n10, if_neg (fun r => n10 r.2)]
    · have nc : ¬ ((33 ≤ zch x j ∧ zch x j ≤ 126) ∧ bad = 0) := fun r => c r.1
      rw [if_neg (fun r => c (ii.mp r)), if_pos rfl, if_neg nc]
      split <;> rfl
  rw [f_X8_put_b8, if_neg n8, zl_e, zl_e, zl_e, zl_e, low_8, sh_n hj]
  refine ⟨fun e => ?_, fun e => ?_⟩
  · rw [if_neg (show ¬ Int32.ofNat j ≤ 0 from fun r => absurd ((n_le (b := 0) (by omega) (by omega)).mp r) (by have := e.1; omega)), zl_e, zl_e, zl_e, if_pos ((cmp_0 _).mpr (by rw [sh_n hj]; exact e.2)), if_neg n10, b80, b80, if_neg n10]
    rcases hb with rfl | rfl
    · rw [if_pos rfl]
    · rw [if_neg n10]
  · have goal : ∀ Y, Y = f_X8_put_b8 k x n pd ln (many + 1) (if (33 ≤ zch x j ∧ zch x j ≤ 126) ∧ bad = 0 then 0 else 1) (Int32.ofNat (j + 1)) → (chI x j → Y = f_X8_put_b8 k x n pd ln (many + 1) bad (Int32.ofNat (j + 1))) ∧ (¬ chI x j → Y = f_X8_put_b8 k x n pd ln (many + 1) 1 (Int32.ofNat (j + 1))) := fun Y hY => by
      subst hY
      refine ⟨fun c => ?_, fun c => ?_⟩
      · rcases hb with rfl | rfl
        · rw [if_pos ⟨c, rfl⟩]
        · rw [if_neg (fun r => n10 r.2)]
      · rw [if_neg (fun r => c r.1)]
    apply goal
    by_cases j0 : j = 0
    · subst j0
      rw [if_pos (by decide)]
      exact ne
    · have h0 : zhi x j ≠ 0 := fun r => e ⟨by omega, r⟩
      rw [if_neg (show ¬ Int32.ofNat j ≤ 0 from fun r => absurd ((n_le (b := 0) (by omega) (by omega)).mp r) (by omega)), zl_e, zl_e, zl_e, if_neg (fun r => h0 (by rw [← sh_n hj]; exact (cmp_0 _).mp r))]
      exact ne
