/-! DOUBLES: as the floats -/
def cdd (n : Nat) (e : Int) : FP.Core.Datum :=
  if n = 0 then .fin false 0 (-1074) else .fin false (n * 2 ^ (52 - n.log2)) (e + (n.log2 : Int) - 52)
theorem q_b64 : FP.Core.b64.qmin = -1074 ∧ FP.Core.b64.qmax = 971 ∧ FP.Core.b64.tails = 4503599627370496 ∧ FP.Core.b64.p = 53 := by decide
theorem log_ltd {n : Nat} (h0 : n ≠ 0) (h : n < 9007199254740992) : n.log2 ≤ 52 := by
  have l1 : 2 ^ n.log2 ≤ n := Nat.log2_self_le h0
  have : n.log2 < 53 := (Nat.pow_lt_pow_iff_right (by decide : 1 < 2)).mp (Nat.lt_of_le_of_lt l1 h)
  omega
theorem cdd_norm {n : Nat} (h0 : n ≠ 0) (h : n < 9007199254740992) : 4503599627370496 ≤ n * 2 ^ (52 - n.log2) ∧ n * 2 ^ (52 - n.log2) < 9007199254740992 := by
  have l1 : 2 ^ n.log2 ≤ n := Nat.log2_self_le h0
  have l2 : n < 2 ^ (n.log2 + 1) := Nat.lt_log2_self
  have l3 := log_ltd h0 h
  generalize n.log2 = L at *
  have p := Nat.two_pow_pos (52 - L)
  have e1 : 2 ^ L * 2 ^ (52 - L) = 4503599627370496 := by rw [← Nat.pow_add, show L + (52 - L) = 52 by omega]
  have e2 : 2 ^ (L + 1) * 2 ^ (52 - L) = 9007199254740992 := by rw [← Nat.pow_add, show L + 1 + (52 - L) = 53 by omega]
  have m1 := Nat.mul_le_mul_right (2 ^ (52 - L)) l1
  have m2 := Nat.mul_lt_mul_of_pos_right l2 p
  omega
theorem cdd_fits {n : Nat} {e : Int} (h : n < 9007199254740992) (h1 : -100 ≤ e) (h2 : e ≤ 100) : FP.Core.fits FP.Core.b64 (cdd n e) := by
  obtain ⟨q1, q2, q3, q4⟩ := q_b64
  unfold cdd
  by_cases h0 : n = 0
  · rw [if_pos h0]
    exact ⟨by rw [q4]; decide, by rw [q1]; decide, by rw [q2]; decide, .inl (by rw [q1])⟩
  · rw [if_neg h0]
    have l := log_ltd h0 h
    obtain ⟨a, b⟩ := cdd_norm h0 h
    exact ⟨by rw [q4]; exact b, by rw [q1]; omega, by rw [q2]; omega, .inr (by rw [q3]; exact a)⟩
/-- how it stands: with a significand that is n moved to a lower exponent -/
theorem cdd_form {n : Nat} {e : Int} (h : n < 9007199254740992) (h1 : -100 ≤ e) : ∃ q : Int, q ≤ e ∧ cdd n e = .fin false (n * 2 ^ (e - q).toNat) q := by
  unfold cdd
  by_cases h0 : n = 0
  · rw [if_pos h0, h0]
    exact ⟨-1074, by omega, by rw [Nat.zero_mul]⟩
  · rw [if_neg h0]
    have l := log_ltd h0 h
    exact ⟨e + (n.log2 : Int) - 52, by omega, by rw [show (e - (e + (n.log2 : Int) - 52)).toNat = 52 - n.log2 by omega]⟩
/-- a ratio of that value rounds to it -/
theorem cdd_ratio {n A B : Nat} {e e' : Int} (h : n < 9007199254740992) (h1 : -100 ≤ e) (h2 : e ≤ 100) (hB : 0 < B) (hv : A * 2 ^ (e' - e).toNat = n * B * 2 ^ (e - e').toNat) : FP.Core.roundRatio FP.Core.b64 false A B e' = cdd n e := by
  rw [FP.Core.roundRatio_congr (A' := n) (B' := 1) (e' := e) hB (by decide) (by rw [Nat.mul_one]; exact hv)]
  have hf := cdd_fits (n := n) h h1 h2
  obtain ⟨q, hq, hc⟩ := cdd_form (n := n) h h1
  rw [hc] at hf ⊢
  exact FP.Core.roundRatio_exact FP.Core.good_b64 (by decide) hf (by rw [show (q - e).toNat = 0 by omega]; simp)
theorem cdd_round {n m : Nat} {e q : Int} (h : n < 9007199254740992) (h1 : -100 ≤ e) (h2 : e ≤ 100) (hv : m * 2 ^ (q - e).toNat = n * 2 ^ (e - q).toNat) : FP.Core.round FP.Core.b64 (.fin false m q) = cdd n e :=
  cdd_ratio (B := 1) h h1 h2 (by decide) (by rw [Nat.mul_one]; exact hv)
/-- the float of that value -/
def gb (n : Nat) (e : Int) : UInt64 := FP.Core.of64 (cdd n e)
theorem gb_val {n : Nat} {e : Int} (h : n < 9007199254740992) (h1 : -100 ≤ e) (h2 : e ≤ 100) : FP.Core.val64 (gb n e) = cdd n e := FP.Core.val64_of64 (cdd_fits h h1 h2)
theorem cdd_nan {n : Nat} {e : Int} : cdd n e ≠ .nan := by
  unfold cdd
  split <;> exact fun h => FP.Core.Datum.noConfusion h
theorem gb_inj {a : UInt64} {n : Nat} {e : Int} (h : n < 9007199254740992) (h1 : -100 ≤ e) (h2 : e ≤ 100) (hv : FP.Core.val64 a = cdd n e) : a = gb n e :=
  FP.Core.val64_inj (by rw [hv]; exact cdd_nan) (by rw [hv, gb_val h h1 h2])
theorem gb_i2d {w : Nat} (h : w < 2147483648) : FP.i2d (Int32.ofNat w) = gb w 0 := by
  refine gb_inj (by omega) (by omega) (by omega) ?_
  show FP.Core.val64 (FP.Core.i2d _) = _
  rw [FP.Core.val64_i2d, i_nat (by omega)]
  show FP.Core.round _ (.fin (decide ((w : Int) < 0)) (w : Int).natAbs 0) = _
  rw [show decide ((w : Int) < 0) = false from decide_eq_false (by omega), Int.natAbs_natCast]
  exact cdd_round (by omega) (by omega) (by omega) (by simp)
theorem gb_mul {n m : Nat} {e d : Int} (hn : n < 9007199254740992) (hm : m < 9007199254740992) (h : n * m < 9007199254740992) (e1 : -100 ≤ e) (e2 : e ≤ 100) (d1 : -100 ≤ d) (d2 : d ≤ 100) (h1 : -100 ≤ e + d) (h2 : e + d ≤ 100) : FP.dmul (gb n e) (gb m d) = gb (n * m) (e + d) := by
  refine gb_inj h h1 h2 ?_
  show FP.Core.val64 (FP.Core.dmul _ _) = _
  rw [FP.Core.val64_dmul, gb_val hn e1 e2, gb_val hm d1 d2]
  obtain ⟨q, hq, hc⟩ := cdd_form (n := n) hn e1
  obtain ⟨r, hr, hd⟩ := cdd_form (n := m) hm d1
  rw [hc, hd]
  show FP.Core.round _ (.fin (false != false) _ _) = _
  refine cdd_round h h1 h2 ?_
  rw [show (q + r - (e + d)).toNat = 0 by omega, show (e + d - (q + r)).toNat = (e - q).toNat + (d - r).toNat by omega, Nat.pow_zero, Nat.mul_one, ← pw]
  generalize 2 ^ (e - q).toNat = x
  generalize 2 ^ (d - r).toNat = y
  rw [Nat.mul_assoc, Nat.mul_assoc, Nat.mul_left_comm x]
theorem gb_div {n j : Nat} {e : Int} {b : UInt64} (hb : b = gb 1 j) (h : n < 9007199254740992) (e1 : -100 ≤ e) (e2 : e ≤ 100) (hj : j ≤ 100) (h1 : -100 ≤ e - j) (h2 : e - j ≤ 100) : FP.ddiv (gb n e) b = gb n (e - j) := by
  refine gb_inj h h1 h2 ?_
  show FP.Core.val64 (FP.Core.ddiv _ _) = _
  rw [hb, FP.Core.val64_ddiv, gb_val h e1 e2, gb_val (by decide) (by omega) (by omega)]
  obtain ⟨q, hq, hc⟩ := cdd_form (n := n) h e1
  obtain ⟨r, hr, hd⟩ := cdd_form (n := 1) (e := (j : Int)) (by decide) (by omega)
  rw [hc, hd]
  have p := Nat.two_pow_pos ((j : Int) - r).toNat
  show (if 1 * 2 ^ ((j : Int) - r).toNat = 0 then _ else FP.Core.roundRatio _ (false != false) _ _ _) = _
  rw [if_neg (by omega)]
  refine cdd_ratio h h1 h2 (by omega) ?_
  rw [Nat.one_mul, Nat.mul_assoc, Nat.mul_assoc, pw, pw]
  congr 2
  omega
theorem z64_gb {n : Nat} {e : Int} (h : n < 9007199254740992) (e1 : -100 ≤ e) (e2 : e ≤ 100) : z64 (gb n e) = true := by
  have hf := FP.Core.fin_bits (gb n e)
  have h1 : FP.Core.DFin (gb n e) := by
    obtain ⟨q, hq, hc⟩ := cdd_form (n := n) h e1
    exact ⟨_, _, _, by rw [gb_val h e1 e2, hc]⟩
  have h2 := hf.mp h1
  unfold z64
  refine decide_eq_true ?_
  rw [UInt64.le_iff_toNat_le, UInt64.toNat_and]
  show (gb n e).toNat &&& 9223372036854775807 ≤ 9218868437227405312
  rw [show (9223372036854775807 : Nat) = 2 ^ 63 - 1 from rfl, Nat.and_two_pow_sub_one_eq_mod]
  omega

theorem cdd_n {c : Nat} {q : Int} (h : 4503599627370496 ≤ c) (h' : c < 9007199254740992) : cdd c q = .fin false c q := by
  have l : c.log2 = 52 := by
    have a1 : 2 ^ c.log2 ≤ c := Nat.log2_self_le (by omega)
    have a2 : c < 2 ^ (c.log2 + 1) := Nat.lt_log2_self
    have b1 : c.log2 < 53 := (Nat.pow_lt_pow_iff_right (by decide : 1 < 2)).mp (Nat.lt_of_le_of_lt a1 h')
    have b2 : 52 < c.log2 + 1 := (Nat.pow_lt_pow_iff_right (by decide : 1 < 2)).mp (Nat.lt_of_le_of_lt h a2)
    omega
  unfold cdd
  rw [if_neg (by omega), l, Nat.sub_self, Nat.pow_zero, Nat.mul_one]
  congr 1
  omega
theorem dcmp_o {n m : Nat} {e d : Int} (hn : n < 9007199254740992) (hm : m < 9007199254740992) (e1 : -100 ≤ e) (e2 : e ≤ 100) (d1 : -100 ≤ d) (d2 : d ≤ 100) : FP.dcmp (gb n e) (gb m d) = FP.Core.order (cdd n e) (cdd m d) := by
  rw [← gb_val hn e1 e2, ← gb_val hm d1 d2]
  rfl
theorem dcmp_lt {c d : Nat} {q r : Int} (hc : c < 9007199254740992) (hd : 4503599627370496 ≤ d) (hd' : d < 9007199254740992) (hc' : 4503599627370496 ≤ c) (q1 : -100 ≤ q) (q2 : q ≤ 100) (r1 : -100 ≤ r) (r2 : r ≤ 100) (h : q < r) : FP.dcmp (gb c q) (gb d r) = some .lt := by
  rw [dcmp_o hc hd' q1 q2 r1 r2, cdd_n hc' hc, cdd_n hd hd']
  show some (compare (FP.Core.signed false (FP.Core.inUnits c q (min q r))) (FP.Core.signed false (FP.Core.inUnits d r (min q r)))) = _
  rw [show min q r = q by omega, FP.Core.compare_ite]
  unfold FP.Core.inUnits FP.Core.signed
  rw [show (q - q).toNat = 0 by omega]
  obtain ⟨j, hj⟩ : ∃ j, (r - q).toNat = j + 1 := ⟨(r - q).toNat - 1, by omega⟩
  have p := Nat.two_pow_pos j
  have : 9007199254740992 ≤ d * 2 ^ (r - q).toNat := by
    rw [hj, Nat.pow_succ, ← Nat.mul_assoc]
    have := Nat.mul_le_mul hd p
    omega
  simp only [Bool.false_eq_true, if_false, Nat.pow_zero, Nat.mul_one]
  rw [if_pos (by omega)]
theorem dcmp_ge {c d : Nat} {q r : Int} (hc : c < 9007199254740992) (hd : 4503599627370496 ≤ d) (hd' : d < 9007199254740992) (hc' : d ≤ c) (q1 : -100 ≤ q) (q2 : q ≤ 100) (r1 : -100 ≤ r) (r2 : r ≤ 100) (h : r ≤ q) : FP.dcmp (gb c q) (gb d r) = some .gt ∨ FP.dcmp (gb c q) (gb d r) = some .eq := by
  rw [dcmp_o hc hd' q1 q2 r1 r2, cdd_n (by omega) hc, cdd_n hd hd']
  have e : FP.Core.order (.fin false c q) (.fin false d r) = some (compare (FP.Core.signed false (FP.Core.inUnits c q (min q r))) (FP.Core.signed false (FP.Core.inUnits d r (min q r)))) := rfl
  rw [e, show min q r = r by omega, FP.Core.compare_ite]
  unfold FP.Core.inUnits FP.Core.signed
  rw [show (r - r).toNat = 0 by omega]
  have p := Nat.two_pow_pos (q - r).toNat
  have : c ≤ c * 2 ^ (q - r).toNat := Nat.le_mul_of_pos_right _ p
  simp only [Bool.false_eq_true, if_false, Nat.pow_zero, Nat.mul_one]
  rw [if_neg (by omega)]
  split
  · exact .inr rfl
  · exact .inl rfl
theorem dcmp_0 {c : Nat} {q : Int} (h : 4503599627370496 ≤ c) (h' : c < 9007199254740992) (q1 : -100 ≤ q) (q2 : q ≤ 100) : FP.dcmp (gb c q) FP.dconst0 = some .gt := by
  have e0 : FP.dconst0 = gb 0 0 := by decide +kernel
  rw [e0, dcmp_o h' (by omega) q1 q2 (by omega) (by omega), cdd_n h h']
  have e : FP.Core.order (.fin false c q) (cdd 0 0) = some (compare (FP.Core.signed false (FP.Core.inUnits c q (min q (-1074)))) (FP.Core.signed false (FP.Core.inUnits 0 (-1074) (min q (-1074))))) := rfl
  rw [e, FP.Core.compare_ite]
  unfold FP.Core.inUnits FP.Core.signed
  have p := Nat.two_pow_pos (q - min q (-1074)).toNat
  have := Nat.mul_pos (show 0 < c by omega) p
  simp only [Bool.false_eq_true, if_false, Nat.zero_mul]
  rw [if_neg (by omega), if_neg (by omega)]
theorem dc1 : FP.dconst1 = gb 4503599627370496 (-52) := by decide +kernel
theorem dc2 : (4611686018427387904 : UInt64) = gb 4503599627370496 (-51) := by decide +kernel
theorem dc2' : (4611686018427387904 : UInt64) = gb 1 (1 : Nat) := by decide +kernel
theorem dc_half : (4602678819172646912 : UInt64) = gb 1 (-1) := by decide +kernel
theorem dc_52 : (4841369599423283200 : UInt64) = gb 1 52 := by decide +kernel
theorem gb_half {c : Nat} {q : Int} (h' : c < 9007199254740992) (q1 : -90 ≤ q) (q2 : q ≤ 90) : FP.ddiv (gb c q) (4611686018427387904 : UInt64) = gb c (q - 1) ∧ FP.dmul (gb c q) (4602678819172646912 : UInt64) = gb c (q - 1) ∧ FP.dmul (gb c q) (4611686018427387904 : UInt64) = gb c (q + 1) := by
  refine ⟨gb_div (j := 1) dc2' h' (by omega) (by omega) (by omega) (by omega) (by omega), ?_, ?_⟩
  · rw [dc_half, gb_mul h' (by omega) (by omega) (by omega) (by omega) (by omega) (by omega) (by omega) (by omega), Nat.mul_one]
    rfl
  · rw [dc2', gb_mul h' (by omega) (by omega) (by omega) (by omega) (by omega) (by omega) (by omega) (by omega), Nat.mul_one]
    rfl
theorem gb_sub1 {c : Nat} (h : 4503599627370496 ≤ c) (h' : c < 9007199254740992) : FP.dsub (gb c (-52)) FP.dconst1 = gb (c - 4503599627370496) (-52) := by
  refine gb_inj (by omega) (by omega) (by omega) ?_
  show FP.Core.val64 (FP.Core.dsub _ _) = _
  rw [dc1, FP.Core.val64_dsub, gb_val h' (by omega) (by omega), gb_val (by omega) (by omega) (by omega), cdd_n h h', cdd_n (by omega) (by omega)]
  have su : FP.Core.sumUnits false c (-52) true 4503599627370496 (-52) (-52) = ((c - 4503599627370496 : Nat) : Int) := by
    unfold FP.Core.sumUnits FP.Core.inUnits FP.Core.signed
    simp only [Bool.false_eq_true, if_false, if_true, Int.sub_self, Int.toNat_zero, Nat.pow_zero, Nat.mul_one]
    omega
  show FP.Core.round _ (.fin (FP.Core.sumSign false true (FP.Core.sumUnits false c (-52) true 4503599627370496 (-52) (-52))) (FP.Core.sumUnits false c (-52) true 4503599627370496 (-52) (-52)).natAbs (-52)) = _
  rw [su, Int.natAbs_natCast]
  have sg : FP.Core.sumSign false true ((c - 4503599627370496 : Nat) : Int) = false := by
    unfold FP.Core.sumSign
    split
    · rfl
    · exact decide_eq_false (by omega)
  rw [sg]
  exact cdd_round (by omega) (by omega) (by omega) (by simp)
theorem gb_d2l {n : Nat} (h : n < 9007199254740992) : FP.d2l (gb n 0) = Int64.ofNat n := by
  obtain ⟨q, hq, hc⟩ := cdd_form (n := n) (e := 0) h (by omega)
  show FP.Core.toL (FP.Core.val64 (gb n 0)) = _
  rw [gb_val h (by omega) (by omega), hc]
  unfold FP.Core.toL FP.Core.toInt FP.Core.truncate FP.Core.signed
  simp only [Bool.false_eq_true, if_false]
  rw [show q.toNat = 0 by omega, show (0 - q).toNat = (-q).toNat by omega, Nat.pow_zero, Nat.mul_one, Nat.mul_div_cancel _ (Nat.two_pow_pos _)]
  rw [show max (-2 ^ 63 : Int) (min (2 ^ 63 - 1) (n : Int)) = (n : Int) by omega]
  rfl
/-- the fraction's bits -/
theorem gb_frac {c : Nat} (h : 4503599627370496 ≤ c) (h' : c < 9007199254740992) : z64 (FP.dsub (gb c (-52)) FP.dconst1) = true ∧ z64 (FP.dmul (FP.dsub (gb c (-52)) FP.dconst1) (4841369599423283200 : UInt64)) = true ∧ FP.d2l (FP.dmul (FP.dsub (gb c (-52)) FP.dconst1) (4841369599423283200 : UInt64)) = Int64.ofNat (c - 4503599627370496) := by
  have e : FP.dmul (gb (c - 4503599627370496) (-52)) (4841369599423283200 : UInt64) = gb (c - 4503599627370496) 0 := by
    rw [dc_52, gb_mul (by omega) (by omega) (by omega) (by omega) (by omega) (by omega) (by omega) (by omega) (by omega), Nat.mul_one]
    rfl
  rw [gb_sub1 h h', e]
  exact ⟨z64_gb (by omega) (by omega) (by omega), z64_gb (by omega) (by omega) (by omega), gb_d2l (by omega)⟩