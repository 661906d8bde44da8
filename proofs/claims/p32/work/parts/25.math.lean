/-! the class, as in the proof of whole (wip/p32/math/ext.py) -/
def cd (n : Nat) (e : Int) : FP.Core.Datum :=
  if n = 0 then .fin false 0 (-149) else .fin false (n * 2 ^ (23 - n.log2)) (e + (n.log2 : Int) - 23)
theorem q_b32 : FP.Core.b32.qmin = -149 ∧ FP.Core.b32.qmax = 104 ∧ FP.Core.b32.tails = 8388608 ∧ FP.Core.b32.p = 24 := by decide
theorem log_lt {n : Nat} (h0 : n ≠ 0) (h : n < 16777216) : n.log2 ≤ 23 := by
  have l1 : 2 ^ n.log2 ≤ n := Nat.log2_self_le h0
  have : n.log2 < 24 := (Nat.pow_lt_pow_iff_right (by decide : 1 < 2)).mp (Nat.lt_of_le_of_lt l1 h)
  omega
theorem cd_norm {n : Nat} (h0 : n ≠ 0) (h : n < 16777216) : 8388608 ≤ n * 2 ^ (23 - n.log2) ∧ n * 2 ^ (23 - n.log2) < 16777216 := by
  have l1 : 2 ^ n.log2 ≤ n := Nat.log2_self_le h0
  have l2 : n < 2 ^ (n.log2 + 1) := Nat.lt_log2_self
  have l3 := log_lt h0 h
  generalize n.log2 = L at *
  have p := Nat.two_pow_pos (23 - L)
  have e1 : 2 ^ L * 2 ^ (23 - L) = 8388608 := by rw [← Nat.pow_add, show L + (23 - L) = 23 by omega]
  have e2 : 2 ^ (L + 1) * 2 ^ (23 - L) = 16777216 := by rw [← Nat.pow_add, show L + 1 + (23 - L) = 24 by omega]
  have m1 := Nat.mul_le_mul_right (2 ^ (23 - L)) l1
  have m2 := Nat.mul_lt_mul_of_pos_right l2 p
  omega
theorem cd_fits {n : Nat} {e : Int} (h : n < 16777216) (h1 : -100 ≤ e) (h2 : e ≤ 100) : FP.Core.fits FP.Core.b32 (cd n e) := by
  obtain ⟨q1, q2, q3, q4⟩ := q_b32
  unfold cd
  by_cases h0 : n = 0
  · rw [if_pos h0]
    exact ⟨by rw [q4]; decide, by rw [q1]; decide, by rw [q2]; decide, .inl (by rw [q1])⟩
  · rw [if_neg h0]
    have l := log_lt h0 h
    obtain ⟨a, b⟩ := cd_norm h0 h
    exact ⟨by rw [q4]; exact b, by rw [q1]; omega, by rw [q2]; omega, .inr (by rw [q3]; exact a)⟩
theorem cd_form {n : Nat} {e : Int} (h : n < 16777216) (h1 : -100 ≤ e) : ∃ q : Int, q ≤ e ∧ cd n e = .fin false (n * 2 ^ (e - q).toNat) q := by
  unfold cd
  by_cases h0 : n = 0
  · rw [if_pos h0, h0]
    exact ⟨-149, by omega, by rw [Nat.zero_mul]⟩
  · rw [if_neg h0]
    have l := log_lt h0 h
    exact ⟨e + (n.log2 : Int) - 23, by omega, by rw [show (e - (e + (n.log2 : Int) - 23)).toNat = 23 - n.log2 by omega]⟩
theorem cd_ratio {n A B : Nat} {e e' : Int} (h : n < 16777216) (h1 : -100 ≤ e) (h2 : e ≤ 100) (hB : 0 < B) (hv : A * 2 ^ (e' - e).toNat = n * B * 2 ^ (e - e').toNat) : FP.Core.roundRatio FP.Core.b32 false A B e' = cd n e := by
  rw [FP.Core.roundRatio_congr (A' := n) (B' := 1) (e' := e) hB (by decide) (by rw [Nat.mul_one]; exact hv)]
  have hf := cd_fits (n := n) h h1 h2
  obtain ⟨q, hq, hc⟩ := cd_form (n := n) h h1
  rw [hc] at hf ⊢
  exact FP.Core.roundRatio_exact FP.Core.good_b32 (by decide) hf (by rw [show (q - e).toNat = 0 by omega]; simp)
theorem cd_round {n m : Nat} {e q : Int} (h : n < 16777216) (h1 : -100 ≤ e) (h2 : e ≤ 100) (hv : m * 2 ^ (q - e).toNat = n * 2 ^ (e - q).toNat) : FP.Core.round FP.Core.b32 (.fin false m q) = cd n e :=
  cd_ratio (B := 1) h h1 h2 (by decide) (by rw [Nat.mul_one]; exact hv)
def fb (n : Nat) (e : Int) : UInt32 := FP.Core.of32 (cd n e)
theorem fb_val {n : Nat} {e : Int} (h : n < 16777216) (h1 : -100 ≤ e) (h2 : e ≤ 100) : FP.Core.val32 (fb n e) = cd n e := FP.Core.val32_of32 (cd_fits h h1 h2)
theorem cd_nan {n : Nat} {e : Int} : cd n e ≠ .nan := by
  unfold cd
  split <;> exact fun h => FP.Core.Datum.noConfusion h
theorem fb_inj {a : UInt32} {n : Nat} {e : Int} (h : n < 16777216) (h1 : -100 ≤ e) (h2 : e ≤ 100) (hv : FP.Core.val32 a = cd n e) : a = fb n e :=
  FP.Core.val32_inj (by rw [hv]; exact cd_nan) (by rw [hv, fb_val h h1 h2])
theorem fb_i2f {w : Nat} (h : w < 16777216) : FP.i2f (Int32.ofNat w) = fb w 0 := by
  refine fb_inj h (by omega) (by omega) ?_
  show FP.Core.val32 (FP.Core.i2f _) = _
  rw [FP.Core.val32_i2f, i_nat (by omega)]
  show FP.Core.round _ (.fin (decide ((w : Int) < 0)) (w : Int).natAbs 0) = _
  rw [show decide ((w : Int) < 0) = false from decide_eq_false (by omega), Int.natAbs_natCast]
  exact cd_round h (by omega) (by omega) (by simp)
theorem pw {a b : Nat} : 2 ^ a * 2 ^ b = 2 ^ (a + b) := (Nat.pow_add 2 a b).symm
theorem fb_mul {n m : Nat} {e d : Int} (hn : n < 16777216) (hm : m < 16777216) (h : n * m < 16777216) (e1 : -100 ≤ e) (e2 : e ≤ 100) (d1 : -100 ≤ d) (d2 : d ≤ 100) (h1 : -100 ≤ e + d) (h2 : e + d ≤ 100) : FP.fmul (fb n e) (fb m d) = fb (n * m) (e + d) := by
  refine fb_inj h h1 h2 ?_
  show FP.Core.val32 (FP.Core.fmul _ _) = _
  rw [FP.Core.val32_fmul, fb_val hn e1 e2, fb_val hm d1 d2]
  obtain ⟨q, hq, hc⟩ := cd_form (n := n) hn e1
  obtain ⟨r, hr, hd⟩ := cd_form (n := m) hm d1
  rw [hc, hd]
  show FP.Core.round _ (.fin (false != false) _ _) = _
  refine cd_round h h1 h2 ?_
  rw [show (q + r - (e + d)).toNat = 0 by omega, show (e + d - (q + r)).toNat = (e - q).toNat + (d - r).toNat by omega, Nat.pow_zero, Nat.mul_one, ← pw]
  generalize 2 ^ (e - q).toNat = x
  generalize 2 ^ (d - r).toNat = y
  rw [Nat.mul_assoc, Nat.mul_assoc, Nat.mul_left_comm x]
theorem fb_add {n m : Nat} {e : Int} (h : n + m < 16777216) (e1 : -100 ≤ e) (e2 : e ≤ 100) : FP.fadd (fb n e) (fb m e) = fb (n + m) e := by
  refine fb_inj h e1 e2 ?_
  show FP.Core.val32 (FP.Core.fadd _ _) = _
  rw [FP.Core.val32_fadd, fb_val (by omega) e1 e2, fb_val (by omega) e1 e2]
  obtain ⟨q, hq, hc⟩ := cd_form (n := n) (by omega) e1
  obtain ⟨r, hr, hd⟩ := cd_form (n := m) (by omega) e1
  rw [hc, hd]
  obtain ⟨u, hu⟩ : ∃ u : Int, u = min q r := ⟨_, rfl⟩
  have a1 : u ≤ q := by omega
  have a2 : u ≤ r := by omega
  have x1 : FP.Core.inUnits (n * 2 ^ (e - q).toNat) q u = n * 2 ^ (e - u).toNat := by
    unfold FP.Core.inUnits
    rw [Nat.mul_assoc, pw, show (e - q).toNat + (q - u).toNat = (e - u).toNat by omega]
  have x2 : FP.Core.inUnits (m * 2 ^ (e - r).toNat) r u = m * 2 ^ (e - u).toNat := by
    unfold FP.Core.inUnits
    rw [Nat.mul_assoc, pw, show (e - r).toNat + (r - u).toNat = (e - u).toNat by omega]
  have su : FP.Core.sumUnits false (n * 2 ^ (e - q).toNat) q false (m * 2 ^ (e - r).toNat) r u = (((n + m) * 2 ^ (e - u).toNat : Nat) : Int) := by
    unfold FP.Core.sumUnits
    rw [x1, x2, Nat.add_mul]
    show ((_ : Nat) : Int) + ((_ : Nat) : Int) = _
    omega
  show FP.Core.round _ (.fin (FP.Core.sumSign false false (FP.Core.sumUnits false _ q false _ r (min q r))) (FP.Core.sumUnits false _ q false _ r (min q r)).natAbs (min q r)) = _
  rw [← hu, su, Int.natAbs_natCast]
  have sg : FP.Core.sumSign false false (((n + m) * 2 ^ (e - u).toNat : Nat) : Int) = false := by
    unfold FP.Core.sumSign
    split
    · rfl
    · exact decide_eq_false (by omega)
  rw [sg]
  refine cd_round h e1 e2 ?_
  rw [show (u - e).toNat = 0 by omega]
  simp
theorem fb_div {n j : Nat} {e : Int} {b : UInt32} (hb : b = fb 1 j) (h : n < 16777216) (e1 : -100 ≤ e) (e2 : e ≤ 100) (hj : j ≤ 100) (h1 : -100 ≤ e - j) (h2 : e - j ≤ 100) : FP.fdiv (fb n e) b = fb n (e - j) := by
  refine fb_inj h h1 h2 ?_
  show FP.Core.val32 (FP.Core.fdiv _ _) = _
  rw [hb, FP.Core.val32_fdiv, fb_val h e1 e2, fb_val (by decide) (by omega) (by omega)]
  obtain ⟨q, hq, hc⟩ := cd_form (n := n) h e1
  obtain ⟨r, hr, hd⟩ := cd_form (n := 1) (e := (j : Int)) (by decide) (by omega)
  rw [hc, hd]
  have p := Nat.two_pow_pos ((j : Int) - r).toNat
  show (if 1 * 2 ^ ((j : Int) - r).toNat = 0 then _ else FP.Core.roundRatio _ (false != false) _ _ _) = _
  rw [if_neg (by omega)]
  refine cd_ratio h h1 h2 (by omega) ?_
  rw [Nat.one_mul, Nat.mul_assoc, Nat.mul_assoc, pw, pw]
  congr 2
  omega
theorem fb_0 : fb 0 (-2) = FP.fconst0 := by decide +kernel
theorem fb_4 : (1082130432 : UInt32) = fb 1 (2 : Nat) := by decide +kernel
theorem z32_fb {n : Nat} {e : Int} (h : n < 16777216) (e1 : -100 ≤ e) (e2 : e ≤ 100) : z32 (fb n e) = true := by
  have hf := FP.Core.fin_bits32 (fb n e)
  have h1 : FP.Core.FFin (fb n e) := by
    obtain ⟨q, hq, hc⟩ := cd_form (n := n) h e1
    exact ⟨_, _, _, by rw [fb_val h e1 e2, hc]⟩
  have h2 := hf.mp h1
  unfold z32
  refine decide_eq_true ?_
  rw [UInt32.le_iff_toNat_le, UInt32.toNat_and]
  show (fb n e).toNat &&& 2147483647 ≤ 2139095040
  rw [show (2147483647 : Nat) = 2 ^ 31 - 1 from rfl, Nat.and_two_pow_sub_one_eq_mod]
  omega
