/-! BITS OF NUMBERS -/
theorem n_sar {n i : Nat} (hn : n < 2147483648) (hi : i < 32) : Int32.ofNat n >>> (Int32.ofNat i &&& 31) = Int32.ofNat (n / 2 ^ i) := by
  have hs : ∀ b, b < 32 → ((Int32.ofNat b).toBitVec.smod 32).toNat = b := by decide +kernel
  apply Int32.toBitVec_inj.mp
  rw [b_31 i hi, Int32.toBitVec_shiftRight, BitVec.sshiftRight', hs i hi]
  have hm : (Int32.ofNat n).toBitVec.msb = false := by
    show (BitVec.ofNat 32 n).msb = false
    rw [BitVec.msb_eq_decide, BitVec.toNat_ofNat, Nat.mod_eq_of_lt (by omega)]
    exact decide_eq_false (by omega)
  rw [BitVec.sshiftRight_eq_of_msb_false hm]
  show BitVec.ofNat 32 n >>> i = BitVec.ofNat 32 (n / 2 ^ i)
  apply BitVec.eq_of_toNat_eq
  have h2 : n / 2 ^ i ≤ n := Nat.div_le_self _ _
  rw [BitVec.toNat_ushiftRight, BitVec.toNat_ofNat, BitVec.toNat_ofNat, Nat.shiftRight_eq_div_pow, Nat.mod_eq_of_lt (by omega), Nat.mod_eq_of_lt (by omega)]
theorem n_shl {n i : Nat} (hn : n < 2147483648) (hi : i < 32) : Int32.ofNat n <<< (Int32.ofNat i &&& 31) = Int32.ofNat (n * 2 ^ i) := by
  have hs : ∀ b, b < 32 → ((Int32.ofNat b).toBitVec.smod 32).toNat = b := by decide +kernel
  apply Int32.toBitVec_inj.mp
  rw [b_31 i hi, Int32.toBitVec_shiftLeft]
  show BitVec.ofNat 32 n <<< ((Int32.ofNat i).toBitVec.smod 32) = BitVec.ofNat 32 (n * 2 ^ i)
  apply BitVec.eq_of_toNat_eq
  rw [BitVec.shiftLeft_eq', hs i hi, BitVec.toNat_shiftLeft, BitVec.toNat_ofNat, BitVec.toNat_ofNat, Nat.shiftLeft_eq, Nat.mod_eq_of_lt (show n < 2 ^ 32 by omega)]
/-- the bits of a number of quarters -/
def zbits (n : Nat) : Int32 := if n = 0 then 0 else Int32.ofNat (8388608 * (125 + n.log2) + (n * 2 ^ (23 - n.log2) - 8388608))
theorem fb_norm' {n : Nat} {e : Int} (h0 : n ≠ 0) (h : n < 16777216) : fb n e = fb (n * 2 ^ (23 - n.log2)) (e + (n.log2 : Int) - 23) := by
  obtain ⟨a, b⟩ := cd_norm h0 h
  unfold fb
  rw [cd_n a b]
  unfold cd
  rw [if_neg h0]
theorem s_bits {k n : Nat} (hk : 100 ≤ k) (hn : n < 16777216) : f_X0_ofFloat k (fb n (-2)) = some (zbits n) := by
  by_cases h0 : n = 0
  · subst h0
    rw [fb_0]
    rfl
  · obtain ⟨h, h'⟩ := cd_norm h0 hn
    have hl := log_lt h0 hn
    rw [fb_norm' h0 hn]
    unfold zbits
    rw [if_neg h0]
    generalize n * 2 ^ (23 - n.log2) = c at *
    generalize n.log2 = L at *
    have hg := fcmp_0 (q := -2 + (L : Int) - 23) h h' (by omega) (by omega)
    rw [f_X0_ofFloat]
    simp only [zl_e]
    rw [hg, if_pos (by decide)]
    by_cases hs : 2 ≤ L
    · obtain ⟨j, rfl⟩ : ∃ j : Nat, L = 2 + j := ⟨L - 2, by omega⟩
      rw [show (-2 : Int) + ((2 + j : Nat) : Int) - 23 = -23 + (j : Int) by omega]
      have := of_b15 (k := k) (p1 := fb c (-23 + (j : Int))) (by omega) h h' j k 0 127 (by omega) (by omega) (by omega)
      rw [show 125 + (2 + j) = 127 + j by omega]
      exact this
    · obtain ⟨j, hj⟩ : ∃ j : Nat, L + j = 2 := ⟨2 - L, by omega⟩
      rw [show (-2 : Int) + (L : Int) - 23 = -23 - (j : Int) by omega]
      have h1 := of_b15' (k := k) (p1 := fb c (-23 - (j : Int))) (c := c) (X := 125 + L) (j := j) (by omega) h h' (by omega) (by omega)
      rw [show 125 + L + j = 127 by omega] at h1
      exact h1
theorem l_bits_loop {k n : Nat} (hn : n < 16777216) : ∀ m i, i ≤ n.log2 → n.log2 - i < m → f_L_bitsOf_b2 k (Int32.ofNat n) m (Int32.ofNat i) = some (zbits n) := by
  have hL : n.log2 ≤ 23 := by
    by_cases h0 : n = 0
    · subst h0; decide
    · exact log_lt h0 hn
  intro m
  induction m with
  | zero => intro i _ h; omega
  | succ m ih =>
    intro i hi hm
    rw [f_L_bitsOf_b2, n_sar (by omega) (by omega), zl_e]
    have hle : n / 2 ^ i ≤ n := Nat.div_le_self _ _
    by_cases h : i = n.log2
    · have h1 : n / 2 ^ i ≤ 1 := by
        rw [h]
        have l2 : n < 2 ^ (n.log2 + 1) := Nat.lt_log2_self
        rw [Nat.pow_succ] at l2
        exact Nat.le_of_lt_succ ((Nat.div_lt_iff_lt_mul (Nat.two_pow_pos _)).mpr (by omega))
      rw [if_pos (show Int32.ofNat (n / 2 ^ i) ≤ 1 from (n_le (b := 1) (by omega) (by omega)).mpr h1)]
      by_cases h0 : n = 0
      · subst h0
        rw [if_pos (by decide)]
        rfl
      · rw [if_neg (show ¬ Int32.ofNat n = 0 from fun q => h0 ((n_inj (b := 0) (by omega) (by omega)).mp q))]
        obtain ⟨a, b⟩ := cd_norm h0 hn
        have e1 : (125 : Int32) + Int32.ofNat i = Int32.ofNat (125 + i) := n_add 125 i
        have e2 : (23 : Int32) - Int32.ofNat i = Int32.ofNat (23 - i) := n_sub (a := 23) (by omega)
        simp only [zl_e]
        rw [e1, e2, n_shl23 _ (by omega), n_shl (by omega) (by omega), show (8388607 : Int32) = Int32.ofNat 8388607 from rfl, n_and, n_or]
        unfold zbits
        rw [if_neg h0, ← h]
        rw [← h] at a b
        generalize n * 2 ^ (23 - i) = c at *
        have ec : c &&& 8388607 = c - 8388608 := by
          rw [show (8388607 : Nat) = 2 ^ 23 - 1 from rfl, Nat.and_two_pow_sub_one_eq_mod]
          omega
        have e := Nat.two_pow_add_eq_or_of_lt (i := 23) (b := c - 8388608) (by omega) (125 + i)
        rw [show (2 : Nat) ^ 23 = 8388608 from rfl] at e
        rw [ec, e]
    · have h0 : n ≠ 0 := fun q => by subst q; rw [show Nat.log2 0 = 0 by decide] at hi h; omega
      have l1 : 2 ^ n.log2 ≤ n := Nat.log2_self_le h0
      have h1 : 2 ≤ n / 2 ^ i := by
        refine (Nat.le_div_iff_mul_le (Nat.two_pow_pos _)).mpr ?_
        refine Nat.le_trans ?_ l1
        rw [show 2 * 2 ^ i = 2 ^ (i + 1) by rw [Nat.pow_succ]; omega]
        exact Nat.pow_le_pow_right (by decide) (by omega)
      rw [if_neg (show ¬ Int32.ofNat (n / 2 ^ i) ≤ 1 from fun q => absurd ((n_le (b := 1) (by omega) (by omega)).mp q) (by omega)), zl_e, n_suc]
      exact ih (i + 1) (by omega) (by omega)
theorem l_bits {k n : Nat} (hk : 100 ≤ k) (hn : n < 16777216) : f_L_bitsOf k (Int32.ofNat n) = some (zbits n) := by
  have hL : n.log2 ≤ 23 := by
    by_cases h0 : n = 0
    · subst h0; decide
    · exact log_lt h0 hn
  rw [f_L_bitsOf]
  exact l_bits_loop hn k 0 (by omega) (by omega)
/-- how many of a set -/
theorem l_cnt_loop {k B : Nat} {P : Nat → Bool} (hB : B ≤ 24) : ∀ n i, i ≤ 24 → 24 - i < n → f_L_bits_b4 k (zbs P B) n (Int32.ofNat (zcnt (fun b => decide (b < B) && P b) i)) (Int32.ofNat i) = some (Int32.ofNat (zcnt (fun b => decide (b < B) && P b) 24)) := by
  intro n
  induction n with
  | zero => intro i _ h; omega
  | succ n ih =>
    intro i hi hn
    rw [f_L_bits_b4]
    by_cases h : i < 24
    · rw [if_neg (show ¬ (24 : Int32) ≤ Int32.ofNat i from fun t => absurd ((n_le (a := 24) (by omega) (by omega)).mp t) (by omega)), zl_e, zl_e, b_test (by omega), b_zbs B (by omega) i (by omega), zl_e, zl_e, n_suc]
      have := ih (i + 1) (by omega) (by omega)
      rw [zcnt] at this
      by_cases q : (decide (i < B) && P i) = true
      · rw [if_pos q] at this
        rw [if_pos q, n_suc]
        exact this
      · rw [if_neg q] at this
        rw [if_neg q, Int32.add_zero]
        exact this
    · have : i = 24 := by omega
      subst this
      rw [if_pos (by decide)]
theorem zcnt_in {P : Nat → Bool} {n : Nat} : ∀ m, n ≤ m → zcnt (fun i => decide (i < n) && P i) m = zcnt P n := by
  intro m hm
  induction m with
  | zero => rw [show n = 0 by omega]; rfl
  | succ m ih =>
    by_cases h : n = m + 1
    · subst h
      exact zcnt_congr (fun i hi => by simp [hi])
    · rw [zcnt, ih (by omega)]
      simp [show ¬ m < n by omega]
theorem l_cnt {k B : Nat} {P : Nat → Bool} (hk : 25 ≤ k) (hB : B ≤ 24) : f_L_bits k (zbs P B) = some (Int32.ofNat (zcnt P B)) := by
  have := l_cnt_loop (k := k) (P := P) hB k 0 (by omega) (by omega)
  rw [zcnt_in 24 hB] at this
  rw [f_L_bits]
  exact this
