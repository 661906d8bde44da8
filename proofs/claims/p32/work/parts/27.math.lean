/-! the class, as in the proof of whole (wip/p32/math/ext.py) -/
theorem cd_n {c : Nat} {q : Int} (h : 8388608 ≤ c) (h' : c < 16777216) : cd c q = .fin false c q := by
  have l : c.log2 = 23 := by
    have a1 : 2 ^ c.log2 ≤ c := Nat.log2_self_le (by omega)
    have a2 : c < 2 ^ (c.log2 + 1) := Nat.lt_log2_self
    have b1 : c.log2 < 24 := (Nat.pow_lt_pow_iff_right (by decide : 1 < 2)).mp (Nat.lt_of_le_of_lt a1 h')
    have b2 : 23 < c.log2 + 1 := (Nat.pow_lt_pow_iff_right (by decide : 1 < 2)).mp (Nat.lt_of_le_of_lt h a2)
    omega
  unfold cd
  rw [if_neg (by omega), l, Nat.sub_self, Nat.pow_zero, Nat.mul_one]
  congr 1
  omega
theorem fb_norm {n : Nat} {e : Int} (h0 : n ≠ 0) (h : n < 16777216) : ∃ (c : Nat) (q : Int), 8388608 ≤ c ∧ c < 16777216 ∧ q = e + (n.log2 : Int) - 23 ∧ n.log2 ≤ 23 ∧ fb n e = fb c q := by
  obtain ⟨a, b⟩ := cd_norm h0 h
  refine ⟨n * 2 ^ (23 - n.log2), e + (n.log2 : Int) - 23, a, b, rfl, log_lt h0 h, ?_⟩
  unfold fb
  rw [cd_n a b]
  unfold cd
  rw [if_neg h0]
theorem fcmp_o {n m : Nat} {e d : Int} (hn : n < 16777216) (hm : m < 16777216) (e1 : -100 ≤ e) (e2 : e ≤ 100) (d1 : -100 ≤ d) (d2 : d ≤ 100) : FP.fcmp (fb n e) (fb m d) = FP.Core.order (cd n e) (cd m d) := by
  rw [← fb_val hn e1 e2, ← fb_val hm d1 d2]
  rfl
theorem fcmp_lt {c d : Nat} {q r : Int} (hc : c < 16777216) (hd : 8388608 ≤ d) (hd' : d < 16777216) (hc' : 8388608 ≤ c) (q1 : -100 ≤ q) (q2 : q ≤ 100) (r1 : -100 ≤ r) (r2 : r ≤ 100) (h : q < r) : FP.fcmp (fb c q) (fb d r) = some .lt := by
  rw [fcmp_o hc hd' q1 q2 r1 r2, cd_n hc' hc, cd_n hd hd']
  show some (compare (FP.Core.signed false (FP.Core.inUnits c q (min q r))) (FP.Core.signed false (FP.Core.inUnits d r (min q r)))) = _
  rw [show min q r = q by omega, FP.Core.compare_ite]
  unfold FP.Core.inUnits FP.Core.signed
  rw [show (q - q).toNat = 0 by omega]
  obtain ⟨j, hj⟩ : ∃ j, (r - q).toNat = j + 1 := ⟨(r - q).toNat - 1, by omega⟩
  have p := Nat.two_pow_pos j
  have : 16777216 ≤ d * 2 ^ (r - q).toNat := by
    rw [hj, Nat.pow_succ, ← Nat.mul_assoc]
    have := Nat.mul_le_mul hd p
    omega
  simp only [Bool.false_eq_true, if_false, Nat.pow_zero, Nat.mul_one]
  rw [if_pos (by omega)]
theorem fcmp_ge {c d : Nat} {q r : Int} (hc : c < 16777216) (hd : 8388608 ≤ d) (hd' : d < 16777216) (hc' : d ≤ c) (q1 : -100 ≤ q) (q2 : q ≤ 100) (r1 : -100 ≤ r) (r2 : r ≤ 100) (h : r ≤ q) : FP.fcmp (fb c q) (fb d r) = some .gt ∨ FP.fcmp (fb c q) (fb d r) = some .eq := by
  rw [fcmp_o hc hd' q1 q2 r1 r2, cd_n (by omega) hc, cd_n hd hd']
  have e : FP.Core.order (.fin false c q) (.fin false d r) = some (compare (FP.Core.signed false (FP.Core.inUnits c q (min q r))) (FP.Core.signed false (FP.Core.inUnits d r (min q r)))) := rfl
  rw [e, show min q r = r by omega, FP.Core.compare_ite]
  unfold FP.Core.inUnits FP.Core.signed
  rw [show (r - r).toNat = 0 by omega]
  have p := Nat.two_pow_pos (q - r).toNat
  have : c ≤ c * 2 ^ (q - r).toNat := Nat.le_mul_of_pos_right _ p
  simp only [Bool.false_eq_true, if_false, Nat.pow_zero, Nat.mul_one]
  rw [if_neg (by omega)]
  split
  · exact .inr rfl
  · exact .inl rfl
theorem fcmp_0 {c : Nat} {q : Int} (h : 8388608 ≤ c) (h' : c < 16777216) (q1 : -100 ≤ q) (q2 : q ≤ 100) : FP.fcmp (fb c q) FP.fconst0 = some .gt := by
  have e0 : FP.fconst0 = fb 0 0 := by decide +kernel
  rw [e0, fcmp_o h' (by omega) q1 q2 (by omega) (by omega), cd_n h h']
  have e : FP.Core.order (.fin false c q) (cd 0 0) = some (compare (FP.Core.signed false (FP.Core.inUnits c q (min q (-149)))) (FP.Core.signed false (FP.Core.inUnits 0 (-149) (min q (-149))))) := rfl
  rw [e, FP.Core.compare_ite]
  unfold FP.Core.inUnits FP.Core.signed
  have p := Nat.two_pow_pos (q - min q (-149)).toNat
  have := Nat.mul_pos (show 0 < c by omega) p
  simp only [Bool.false_eq_true, if_false, Nat.zero_mul]
  rw [if_neg (by omega), if_neg (by omega)]
theorem fc1 : FP.fconst1 = fb 8388608 (-23) := by decide +kernel
theorem fc2 : FP.fconst2 = fb 8388608 (-22) := by decide +kernel
theorem fc2' : FP.fconst2 = fb 1 (1 : Nat) := by decide +kernel
theorem fc_half : (1056964608 : UInt32) = fb 1 (-1) := by decide +kernel
theorem fc_23 : (1258291200 : UInt32) = fb 1 23 := by decide +kernel
theorem fb_half {c : Nat} {q : Int} (h' : c < 16777216) (q1 : -90 ≤ q) (q2 : q ≤ 90) : FP.fdiv (fb c q) FP.fconst2 = fb c (q - 1) ∧ FP.fmul (fb c q) (1056964608 : UInt32) = fb c (q - 1) ∧ FP.fmul (fb c q) FP.fconst2 = fb c (q + 1) := by
  refine ⟨fb_div (j := 1) fc2' h' (by omega) (by omega) (by omega) (by omega) (by omega), ?_, ?_⟩
  · rw [fc_half, fb_mul h' (by omega) (by omega) (by omega) (by omega) (by omega) (by omega) (by omega) (by omega), Nat.mul_one]
    rfl
  · rw [fc2', fb_mul h' (by omega) (by omega) (by omega) (by omega) (by omega) (by omega) (by omega) (by omega), Nat.mul_one]
    rfl
theorem fb_sub1 {c : Nat} (h : 8388608 ≤ c) (h' : c < 16777216) : FP.fsub (fb c (-23)) FP.fconst1 = fb (c - 8388608) (-23) := by
  refine fb_inj (by omega) (by omega) (by omega) ?_
  show FP.Core.val32 (FP.Core.fsub _ _) = _
  rw [fc1, FP.Core.val32_fsub, fb_val h' (by omega) (by omega), fb_val (by omega) (by omega) (by omega), cd_n h h', cd_n (by omega) (by omega)]
  have su : FP.Core.sumUnits false c (-23) true 8388608 (-23) (-23) = ((c - 8388608 : Nat) : Int) := by
    unfold FP.Core.sumUnits FP.Core.inUnits FP.Core.signed
    simp only [Bool.false_eq_true, if_false, if_true, Int.sub_self, Int.toNat_zero, Nat.pow_zero, Nat.mul_one]
    omega
  show FP.Core.round _ (.fin (FP.Core.sumSign false true (FP.Core.sumUnits false c (-23) true 8388608 (-23) (-23))) (FP.Core.sumUnits false c (-23) true 8388608 (-23) (-23)).natAbs (-23)) = _
  rw [su, Int.natAbs_natCast]
  have sg : FP.Core.sumSign false true ((c - 8388608 : Nat) : Int) = false := by
    unfold FP.Core.sumSign
    split
    · rfl
    · exact decide_eq_false (by omega)
  rw [sg]
  exact cd_round (by omega) (by omega) (by omega) (by simp)
theorem fb_f2i {n : Nat} (h : n < 16777216) : FP.f2i (fb n 0) = Int32.ofNat n := by
  obtain ⟨q, hq, hc⟩ := cd_form (n := n) (e := 0) h (by omega)
  show FP.Core.toI (FP.Core.val32 (fb n 0)) = _
  rw [fb_val h (by omega) (by omega), hc]
  unfold FP.Core.toI FP.Core.toInt FP.Core.truncate FP.Core.signed
  simp only [Bool.false_eq_true, if_false]
  rw [show q.toNat = 0 by omega, show (0 - q).toNat = (-q).toNat by omega, Nat.pow_zero, Nat.mul_one, Nat.mul_div_cancel _ (Nat.two_pow_pos _)]
  rw [show max (-2 ^ 31 : Int) (min (2 ^ 31 - 1) (n : Int)) = (n : Int) by omega]
  rfl
theorem fb_frac {c : Nat} (h : 8388608 ≤ c) (h' : c < 16777216) : z32 (FP.fsub (fb c (-23)) FP.fconst1) = true ∧ z32 (FP.fmul (FP.fsub (fb c (-23)) FP.fconst1) (1258291200 : UInt32)) = true ∧ FP.f2i (FP.fmul (FP.fsub (fb c (-23)) FP.fconst1) (1258291200 : UInt32)) = Int32.ofNat (c - 8388608) := by
  have e : FP.fmul (fb (c - 8388608) (-23)) (1258291200 : UInt32) = fb (c - 8388608) 0 := by
    rw [fc_23, fb_mul (by omega) (by omega) (by omega) (by omega) (by omega) (by omega) (by omega) (by omega) (by omega), Nat.mul_one]
    rfl
  rw [fb_sub1 h h', e]
  exact ⟨z32_fb (by omega) (by omega) (by omega), z32_fb (by omega) (by omega) (by omega), fb_f2i (by omega)⟩
theorem n_or (a b : Nat) : Int32.ofNat a ||| Int32.ofNat b = Int32.ofNat (a ||| b) := by
  apply Int32.toBitVec_inj.mp
  rw [Int32.toBitVec_or]
  show BitVec.ofNat 32 a ||| BitVec.ofNat 32 b = BitVec.ofNat 32 (a ||| b)
  exact (BitVec.ofNat_or ..).symm
theorem n_shl23 : ∀ X, X < 256 → Int32.ofNat X <<< ((23 : Int32) &&& 31) = Int32.ofNat (8388608 * X) := by decide +kernel
theorem s_end {k c X : Nat} {p1 : UInt32} (h : 8388608 ≤ c) (h' : c < 16777216) (hX : X < 256) : f_X0_ofFloat_b67 k p1 (fb c (-23)) (Int32.ofNat X) = some (Int32.ofNat (8388608 * X + (c - 8388608))) := by
  obtain ⟨a, b, d⟩ := fb_frac h h'
  rw [f_X0_ofFloat_b67, zl_e, a, zg_true, zl_e, b, zg_true]
  simp only [zl_e]
  rw [d, n_shl23 X hX, n_or]
  have e := Nat.two_pow_add_eq_or_of_lt (i := 23) (b := c - 8388608) (by omega) X
  rw [show (2 : Nat) ^ 23 = 8388608 from rfl] at e
  rw [e]
theorem cv_lt (o : CmpOp) : Op.cmpValue (some .lt) o = -1 := by cases o <;> rfl
theorem cv_ge {x : Option Ordering} (o : CmpOp) (h : x = some .gt ∨ x = some .eq) : ¬ Op.cmpValue x o < 0 := by
  rcases h with rfl | rfl <;> cases o <;> decide
theorem n_l100 {a : Nat} (h : a < 100) : ¬ (100 : Int32) ≤ Int32.ofNat a := fun q => absurd ((n_le (a := 100) (by omega) (by omega)).mp q) (by omega)
theorem of_b42 {k : Nat} {p1 : UInt32} {c X : Nat} (h : 8388608 ≤ c) (h' : c < 16777216) (hX : X < 256) : ∀ j n i, j < n → i + j < 60 → f_X0_ofFloat_b42 k p1 n (fb c (-23 - (j : Int))) (Int32.ofNat (X + j)) (Int32.ofNat i) = some (Int32.ofNat (8388608 * X + (c - 8388608))) := by
  intro j
  induction j with
  | zero =>
    intro n i hn hi
    obtain ⟨n, rfl⟩ : ∃ m, n = m + 1 := ⟨n - 1, by omega⟩
    rw [f_X0_ofFloat_b42, if_neg (n_l100 (by omega)), zl_e]
    have hg := fcmp_ge (c := c) (d := 8388608) (q := -23) (r := -23) h' (by omega) (by omega) h (by omega) (by omega) (by omega) (by omega) (by omega)
    rw [← fc1] at hg
    have := cv_ge .g hg
    rw [i_lt] at this
    rw [show (-23 : Int) - ((0 : Nat) : Int) = -23 by omega, if_pos (by rw [i_le]; exact Int.not_lt.mp this)]
    exact s_end h h' hX
  | succ j ih =>
    intro n i hn hi
    obtain ⟨n, rfl⟩ : ∃ m, n = m + 1 := ⟨n - 1, by omega⟩
    rw [f_X0_ofFloat_b42, if_neg (n_l100 (by omega)), zl_e]
    have hg := fcmp_lt (c := c) (d := 8388608) (q := -23 - ((j + 1 : Nat) : Int)) (r := -23) h' (by omega) (by omega) h (by omega) (by omega) (by omega) (by omega) (by omega)
    rw [← fc1] at hg
    rw [hg, cv_lt, if_neg (by decide), (fb_half h' (by omega) (by omega)).2.2, z32_fb h' (by omega) (by omega), zg_true]
    simp only [zl_e]
    rw [show X + (j + 1) = (X + j) + 1 by omega, n_pred, n_suc, show (-23 : Int) - ((j + 1 : Nat) : Int) + 1 = -23 - (j : Int) by omega]
    exact ih n (i + 1) (by omega) (by omega)
theorem of_b15 {k : Nat} {p1 : UInt32} {c : Nat} (hk : 25 ≤ k) (h : 8388608 ≤ c) (h' : c < 16777216) : ∀ j n i X, j < n → i + j < 60 → X + j < 256 → f_X0_ofFloat_b15 k p1 n (fb c (-23 + (j : Int))) (Int32.ofNat X) (Int32.ofNat i) = some (Int32.ofNat (8388608 * (X + j) + (c - 8388608))) := by
  intro j
  induction j with
  | zero =>
    intro n i X hn hi hX
    obtain ⟨n, rfl⟩ : ∃ m, n = m + 1 := ⟨n - 1, by omega⟩
    rw [f_X0_ofFloat_b15, if_neg (n_l100 (by omega)), zl_e]
    have hg := fcmp_lt (c := c) (d := 8388608) (q := -23 + ((0 : Nat) : Int)) (r := -22) h' (by omega) (by omega) h (by omega) (by omega) (by omega) (by omega) (by omega)
    rw [← fc2] at hg
    rw [hg, cv_lt, if_pos (by decide)]
    exact of_b42 h h' hX 0 k 0 (by omega) (by omega)
  | succ j ih =>
    intro n i X hn hi hX
    obtain ⟨n, rfl⟩ : ∃ m, n = m + 1 := ⟨n - 1, by omega⟩
    rw [f_X0_ofFloat_b15, if_neg (n_l100 (by omega)), zl_e]
    have hg := fcmp_ge (c := c) (d := 8388608) (q := -23 + ((j + 1 : Nat) : Int)) (r := -22) h' (by omega) (by omega) h (by omega) (by omega) (by omega) (by omega) (by omega)
    rw [← fc2] at hg
    rw [if_neg (cv_ge .l hg), (fb_half h' (by omega) (by omega)).1, z32_fb h' (by omega) (by omega), zg_true]
    simp only [zl_e]
    rw [n_suc, n_suc, show (-23 : Int) + ((j + 1 : Nat) : Int) - 1 = -23 + (j : Int) by omega, ih n (i + 1) (X + 1) (by omega) (by omega) (by omega), show X + 1 + j = X + (j + 1) by omega]
theorem of_b15' {k : Nat} {p1 : UInt32} {c X j : Nat} (hk : 25 ≤ k) (h : 8388608 ≤ c) (h' : c < 16777216) (hX : X < 256) (hj : j < 20) : f_X0_ofFloat_b15 k p1 k (fb c (-23 - (j : Int))) (Int32.ofNat (X + j)) 0 = some (Int32.ofNat (8388608 * X + (c - 8388608))) := by
  obtain ⟨n, hn⟩ : ∃ m, k = m + 1 := ⟨k - 1, by omega⟩
  have e : f_X0_ofFloat_b15 k p1 (n + 1) (fb c (-23 - (j : Int))) (Int32.ofNat (X + j)) 0 = f_X0_ofFloat_b42 k p1 k (fb c (-23 - (j : Int))) (Int32.ofNat (X + j)) 0 := by
    rw [f_X0_ofFloat_b15, if_neg (by decide), zl_e]
    have hg := fcmp_lt (c := c) (d := 8388608) (q := -23 - (j : Int)) (r := -22) h' (by omega) (by omega) h (by omega) (by omega) (by omega) (by omega) (by omega)
    rw [← fc2] at hg
    rw [hg, cv_lt, if_pos (by decide)]
  rw [← hn] at e
  rw [e]
  exact of_b42 h h' hX j k 0 (by omega) (by omega)
