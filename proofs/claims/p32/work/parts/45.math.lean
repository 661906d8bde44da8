/-! SHARES: floats between numbers -/
theorem tn_le {a b : UInt32} (ha : Nn a) (hb : Nn b) : a.toNat ≤ b.toNat ↔ FP.Core.zmag FP.Core.b32 (FP.Core.val32 a) ≤ FP.Core.zmag FP.Core.b32 (FP.Core.val32 b) := by
  have key : ∀ x : UInt32, Nn x → FP.Core.zmag FP.Core.b32 (FP.Core.val32 x) = FP.Core.unitsOf FP.Core.b32 x.toNat := fun x hx => by
    have h1 : ¬ FP.Core.infBits FP.Core.b32 < FP.Core.mag FP.Core.b32 x.toNat := fun q => hx.1 ((FP.Core.decode_nan x.toNat).mpr q)
    have h2 : FP.Core.mag FP.Core.b32 x.toNat = x.toNat := FP.Core.mag_of_lt (by rw [FP.Core.half_b32]; exact hx.2)
    have h3 := FP.Core.zmag_decode FP.Core.good_b32 (n := x.toNat) (by omega)
    rw [h2] at h3
    exact h3
  rw [key a ha, key b hb, FP.Core.unitsOf_le_iff]
theorem shr_val {N m : Nat} (hN : N < 16777216) (h1 : 0 < m) (h2 : m < 16777216) : ∃ q r : Int, q ≤ -2 ∧ r ≤ 0 ∧ FP.Core.val32 (shr N (Int32.ofNat m)) = FP.Core.roundRatio FP.Core.b32 false (N * 2 ^ (-2 - q).toNat) (m * 2 ^ (0 - r).toNat) (q - r) := by
  have e : FP.Core.val32 (shr N (Int32.ofNat m)) = FP.Core.quotient FP.Core.b32 (cd N (-2)) (cd m 0) := by
    unfold shr
    show FP.Core.val32 (FP.Core.fdiv _ _) = _
    rw [fb_i2f h2, FP.Core.val32_fdiv, fb_val hN (by omega) (by omega), fb_val h2 (by omega) (by omega)]
  obtain ⟨q, hq, hc⟩ := cd_form (n := N) (e := -2) hN (by omega)
  obtain ⟨r, hr, hd⟩ := cd_form (n := m) (e := 0) h2 (by omega)
  rw [hc, hd] at e
  have p := Nat.mul_pos h1 (Nat.two_pow_pos (0 - r).toNat)
  refine ⟨q, r, hq, hr, ?_⟩
  rw [e]
  show (if m * 2 ^ (0 - r).toNat = 0 then _ else FP.Core.roundRatio _ (false != false) _ _ _) = _
  rw [if_neg (by omega)]
  rfl
theorem fb_n {c s : Nat} (hc : c < 16777216) (hs : s ≤ 60) : Nn (fb c (-(s : Int))) := by
  have hv := fb_val (n := c) (e := -(s : Int)) hc (by omega) (by omega)
  have hn : FP.Core.val32 (fb c (-(s : Int))) ≠ .nan := by rw [hv]; exact cd_nan
  refine ⟨hn, ?_⟩
  have h2 := FP.Core.sgn_bits32 hn
  rw [hv] at h2
  obtain ⟨q, hq, hd⟩ := cd_form (n := c) (e := -(s : Int)) hc (by omega)
  rw [hd] at h2
  have := of_decide_eq_false h2.symm
  omega
/-- both ways: the float of a share beside a number of the format -/
theorem sh_units {N m c s : Nat} {q r : Int} (hc : c < 16777216) (hs : s ≤ 60) (hq : q ≤ -2) (hr : r ≤ 0) : ∃ (e0 : Int) (P : Nat), 0 < P ∧ e0 ≤ FP.Core.b32.qmin ∧ e0 ≤ q - r ∧ FP.Core.inUnits (N * 2 ^ (-2 - q).toNat) (q - r) e0 = N * 2 ^ s * P ∧ FP.Core.zmag FP.Core.b32 (cd c (-(s : Int))) * 2 ^ (FP.Core.b32.qmin - e0).toNat * (m * 2 ^ (0 - r).toNat) = 4 * m * c * P := by
  obtain ⟨q1, -, -, -⟩ := q_b32
  obtain ⟨w, hw, hd⟩ := cd_form (n := c) (e := -(s : Int)) hc (by omega)
  have hf := cd_fits (n := c) (e := -(s : Int)) hc (by omega) (by omega)
  obtain ⟨e0, he⟩ : ∃ e0 : Int, e0 = min (-149) (q - r) := ⟨_, rfl⟩
  rw [hd] at hf
  have u := FP.Core.units_fin (e0 := e0) hf (by rw [q1]; omega)
  have hw2 := hf.2.1
  rw [q1] at hw2
  refine ⟨e0, 2 ^ (-2 - r - e0 - (s : Int)).toNat, Nat.two_pow_pos _, by rw [q1]; omega, by omega, ?_, ?_⟩
  · unfold FP.Core.inUnits
    rw [Nat.mul_assoc, Nat.mul_assoc, pw, pw]
    congr 2
    omega
  · rw [hd, ← u]
    unfold FP.Core.inUnits
    have e1 : c * 2 ^ (-(s : Int) - w).toNat * 2 ^ (w - e0).toNat * (m * 2 ^ (0 - r).toNat) = m * c * (2 ^ (-(s : Int) - w).toNat * 2 ^ (w - e0).toNat * 2 ^ (0 - r).toNat) := by ac_rfl
    rw [e1, pw, pw, show (-(s : Int) - w).toNat + (w - e0).toNat + (0 - r).toNat = (-2 - r - e0 - (s : Int)).toNat + 2 by omega, Nat.pow_add, show (2 : Nat) ^ 2 = 4 from rfl]
    ac_rfl
theorem sh_le {N m c s : Nat} (hN : N < 16777216) (h1 : 0 < m) (h2 : m < 16777216) (hc : c < 16777216) (hs : s ≤ 60) (h : N * 2 ^ s ≤ 4 * m * c) : (shr N (Int32.ofNat m)).toNat ≤ (fb c (-(s : Int))).toNat := by
  obtain ⟨q, r, hq, hr, hv⟩ := shr_val hN h1 h2
  obtain ⟨e0, P, hP, a1, a2, a3, a4⟩ := sh_units (N := N) (m := m) (c := c) (s := s) hc hs hq hr
  have p := Nat.mul_pos h1 (Nat.two_pow_pos (0 - r).toNat)
  rw [tn_le (shr_n hN h1 h2) (fb_n hc hs), hv, fb_val hc (by omega) (by omega)]
  refine FP.Core.zmag_roundRatio_le FP.Core.good_b32 (e0 := e0) p (cd_fits hc (by omega) (by omega)) cd_nan a1 a2 ?_
  rw [a3, a4]
  exact Nat.mul_le_mul_right P h
theorem sh_ge {N m c s : Nat} (hN : N < 16777216) (h1 : 0 < m) (h2 : m < 16777216) (hc : c < 16777216) (hs : s ≤ 60) (h : 4 * m * c ≤ N * 2 ^ s) : (fb c (-(s : Int))).toNat ≤ (shr N (Int32.ofNat m)).toNat := by
  obtain ⟨q, r, hq, hr, hv⟩ := shr_val hN h1 h2
  obtain ⟨e0, P, hP, a1, a2, a3, a4⟩ := sh_units (N := N) (m := m) (c := c) (s := s) hc hs hq hr
  have p := Nat.mul_pos h1 (Nat.two_pow_pos (0 - r).toNat)
  rw [tn_le (fb_n hc hs) (shr_n hN h1 h2), hv, fb_val hc (by omega) (by omega)]
  refine FP.Core.zmag_roundRatio_ge FP.Core.good_b32 (e0 := e0) p (cd_fits hc (by omega) (by omega)) a1 a2 ?_
  rw [a3, a4]
  exact Nat.mul_le_mul_right P h
theorem fb_lt {c d s : Nat} (hd : d < 16777216) (hs : s ≤ 60) (h : c < d) : (fb c (-(s : Int))).toNat < (fb d (-(s : Int))).toNat := by
  refine Nat.lt_of_not_le (fun hle => ?_)
  rw [tn_le (fb_n hd hs) (fb_n (by omega) hs), fb_val hd (by omega) (by omega), fb_val (by omega) (by omega) (by omega)] at hle
  obtain ⟨e0, P, hP, a1, a2, -, a4⟩ := sh_units (N := 0) (m := 1) (c := c) (s := s) (q := -2) (r := 0) (by omega) hs (by omega) (by omega)
  obtain ⟨e1, P', hP', b1, b2, -, b4⟩ := sh_units (N := 0) (m := 1) (c := d) (s := s) (q := -2) (r := 0) hd hs (by omega) (by omega)
  obtain ⟨q1, -, -, -⟩ := q_b32
  -- compare in the units of the format
  have u : ∀ x : Nat, x < 16777216 → FP.Core.zmag FP.Core.b32 (cd x (-(s : Int))) = x * 2 ^ (149 - s) := fun x hx => by
    obtain ⟨w, hw, hdx⟩ := cd_form (n := x) (e := -(s : Int)) hx (by omega)
    have hf := cd_fits (n := x) (e := -(s : Int)) hx (by omega) (by omega)
    rw [hdx] at hf
    have hw2 := hf.2.1
    rw [q1] at hw2
    rw [hdx]
    show FP.Core.inUnits _ w FP.Core.b32.qmin = _
    unfold FP.Core.inUnits
    rw [q1, Nat.mul_assoc, pw]
    congr 2
    omega
  rw [u c (by omega), u d hd] at hle
  exact absurd (Nat.le_of_mul_le_mul_right hle (Nat.two_pow_pos _)) (by omega)
/-- a share in millionths -/
def mil (N m : Nat) : Nat := 250000 * N / m
theorem log_15 {n : Nat} (h0 : n ≠ 0) (h : n < 65536) : n.log2 ≤ 15 := by
  have l1 : 2 ^ n.log2 ≤ n := Nat.log2_self_le h0
  have : n.log2 < 16 := (Nat.pow_lt_pow_iff_right (by decide : 1 < 2)).mp (Nat.lt_of_le_of_lt l1 h)
  omega
/-- numbers of the format between a share and a clearly greater one -/
theorem mid_ex {M : Nat} (hM : M < 60000000000) : ∃ c s : Nat, s ≤ 23 ∧ c + 1 < 16777216 ∧ (M + 1) * 2 ^ s ≤ c * 1000000 ∧ (c + 1) * 1000000 ≤ (M + M / 1000000 + 3) * 2 ^ s := by
  obtain ⟨H, hH⟩ : ∃ H, H = M / 1000000 := ⟨_, rfl⟩
  have h16 : H + 2 < 65536 := by omega
  have n0 : H + 2 ≠ 0 := by omega
  have hl := log_15 n0 h16
  have l1 : 2 ^ (H + 2).log2 ≤ H + 2 := Nat.log2_self_le n0
  have l2 : H + 2 < 2 ^ ((H + 2).log2 + 1) := Nat.lt_log2_self
  generalize (H + 2).log2 = L at *
  have e1 : 2 ^ L * 2 ^ (23 - L) = 8388608 := by rw [← Nat.pow_add, show L + (23 - L) = 23 by omega]
  have e2 : 2 ^ (L + 1) * 2 ^ (23 - L) = 16777216 := by rw [← Nat.pow_add, show L + 1 + (23 - L) = 24 by omega]
  have m1 := Nat.mul_le_mul_right (2 ^ (23 - L)) l1
  have m2 := Nat.mul_lt_mul_of_pos_right l2 (Nat.two_pow_pos (23 - L))
  have p := Nat.two_pow_pos (23 - L)
  obtain ⟨S, hS⟩ : ∃ S, S = 2 ^ (23 - L) := ⟨_, rfl⟩
  rw [← hS] at e1 e2 m1 m2 p
  rw [e1] at m1
  rw [e2] at m2
  refine ⟨((M + 1) * S + 999999) / 1000000, 23 - L, by omega, ?_, ?_, ?_⟩
  · have hx : M + H + 3 ≤ 1000000 * (H + 2) := by omega
    have hy := Nat.mul_le_mul_right S hx
    rw [Nat.mul_assoc] at hy
    have hz : (M + H + 3) * S = (M + 1) * S + (H + 2) * S := by rw [← Nat.add_mul]; congr 1; omega
    rw [hz] at hy
    generalize (M + 1) * S = X at *
    generalize (H + 2) * S = Y at *
    omega
  · rw [← hS]
    generalize (M + 1) * S = X
    omega
  · rw [← hS, ← hH]
    have hz : (M + H + 3) * S = (M + 1) * S + (H + 2) * S := by rw [← Nat.add_mul]; congr 1; omega
    rw [hz]
    generalize (M + 1) * S = X at *
    generalize (H + 2) * S = Y at *
    omega
theorem mil_le {N m M c s : Nat} (hm : 0 < m) (h : mil N m ≤ M) (hc : (M + 1) * 2 ^ s ≤ c * 1000000) : N * 2 ^ s ≤ 4 * m * c := by
  unfold mil at h
  have h1 : 250000 * N < (M + 1) * m := (Nat.div_lt_iff_lt_mul hm).mp (by omega)
  have h2 : 250000 * N * 2 ^ s ≤ (M + 1) * m * 2 ^ s := Nat.mul_le_mul_right _ (Nat.le_of_lt h1)
  have h3 := Nat.mul_le_mul_right m hc
  have e1 : (M + 1) * m * 2 ^ s = (M + 1) * 2 ^ s * m := by ac_rfl
  have e2 : 250000 * N * 2 ^ s = 250000 * (N * 2 ^ s) := by ac_rfl
  have e3 : c * 1000000 * m = 1000000 * (m * c) := by ac_rfl
  have e4 : 4 * m * c = 4 * (m * c) := by ac_rfl
  rw [e1, e2] at h2
  rw [e3] at h3
  rw [e4]
  generalize N * 2 ^ s = X at *
  generalize m * c = Y at *
  generalize (M + 1) * 2 ^ s * m = Z at *
  omega
theorem mil_ge {N m K d s : Nat} (hm : 0 < m) (h : K ≤ mil N m) (hd : d * 1000000 ≤ K * 2 ^ s) : 4 * m * d ≤ N * 2 ^ s := by
  unfold mil at h
  have h1 : K * m ≤ 250000 * N := (Nat.le_div_iff_mul_le hm).mp h
  have h2 : K * m * 2 ^ s ≤ 250000 * N * 2 ^ s := Nat.mul_le_mul_right _ h1
  have h3 := Nat.mul_le_mul_right m hd
  have e1 : K * m * 2 ^ s = K * 2 ^ s * m := by ac_rfl
  have e2 : 250000 * N * 2 ^ s = 250000 * (N * 2 ^ s) := by ac_rfl
  have e3 : d * 1000000 * m = 1000000 * (m * d) := by ac_rfl
  have e4 : 4 * m * d = 4 * (m * d) := by ac_rfl
  rw [e1, e2] at h2
  rw [e3] at h3
  rw [e4]
  generalize N * 2 ^ s = X at *
  generalize m * d = Y at *
  generalize K * 2 ^ s * m = Z at *
  omega
theorem gsh_max (a b : UInt32) : (gsh a b).toNat = max a.toNat b.toNat := by
  unfold gsh
  split <;> omega
/-- the place with the least float has, in millionths, hardly more than another -/
theorem share_le {Fp Rp Fq Rq m0 m1 : Nat} (h1 : Fp < 16777216) (h2 : Rp < 16777216) (h3 : Fq < 16777216) (h4 : Rq < 16777216) (a0 : 100 ≤ m0) (b0 : m0 ≤ 30000) (a1 : 100 ≤ m1) (b1 : m1 ≤ 30000)
    (h : (gsh (shr Fp (Int32.ofNat m0)) (shr Rp (Int32.ofNat m1))).toNat ≤ (gsh (shr Fq (Int32.ofNat m0)) (shr Rq (Int32.ofNat m1))).toNat) : max (mil Fp m0) (mil Rp m1) ≤ max (mil Fq m0) (mil Rq m1) + max (mil Fq m0) (mil Rq m1) / 1000000 + 2 := by
  have bd : ∀ N m, N < 16777216 → 100 ≤ m → mil N m < 60000000000 := fun N m hN hm => by
    unfold mil
    refine (Nat.div_lt_iff_lt_mul (by omega)).mpr ?_
    have := Nat.mul_le_mul_left 60000000000 hm
    omega
  obtain ⟨M, hM⟩ : ∃ M, M = max (mil Fq m0) (mil Rq m1) := ⟨_, rfl⟩
  rw [← hM]
  have bM : M < 60000000000 := by
    have := bd Fq m0 h3 a0
    have := bd Rq m1 h4 a1
    omega
  refine Nat.le_of_not_lt (fun hlt => ?_)
  obtain ⟨c, s, hs, hc, c1, c2⟩ := mid_ex bM
  have q0 := sh_le (s := s) h3 (by omega) (by omega) (show c < 16777216 by omega) (by omega) (mil_le (m := m0) (by omega) (show mil Fq m0 ≤ M by omega) c1)
  have q1 := sh_le (s := s) h4 (by omega) (by omega) (show c < 16777216 by omega) (by omega) (mil_le (m := m1) (by omega) (show mil Rq m1 ≤ M by omega) c1)
  have lt := fb_lt (s := s) hc (by omega) (Nat.lt_succ_self c)
  rw [gsh_max, gsh_max] at h
  have cs : M + M / 1000000 + 3 ≤ mil Fp m0 ∨ M + M / 1000000 + 3 ≤ mil Rp m1 := by omega
  rcases cs with k | k
  · have p0 := sh_ge (s := s) h1 (by omega) (by omega) hc (by omega) (mil_ge (m := m0) (by omega) k c2)
    omega
  · have p0 := sh_ge (s := s) h2 (by omega) (by omega) hc (by omega) (mil_ge (m := m1) (by omega) k c2)
    omega
