/-! the class, as in the proof of whole (wip/p32/math/ext.py) -/
def nsum (W : Nat → Nat) (P : Nat → Bool) : Nat → Nat
  | 0 => 0
  | n + 1 => if P n then nsum W P n + W n else nsum W P n
theorem zsum_nat {w : Nat → Int32} {W : Nat → Nat} {P : Nat → Bool} : ∀ n, (∀ b, b < n → P b = true → w b = Int32.ofNat (W b)) → zsum w P n = Int32.ofNat (nsum W P n) := by
  intro n
  induction n with
  | zero => intro _; rfl
  | succ n ih =>
    intro h
    rw [zsum, nsum, ih (fun b hb => h b (by omega))]
    by_cases hp : P n = true
    · rw [if_pos hp, if_pos hp, h n (by omega) hp, n_add]
    · rw [if_neg hp, if_neg hp]
theorem nsum_le {W : Nat → Nat} {P : Nat → Bool} {M : Nat} : ∀ n, (∀ b, b < n → W b ≤ M) → nsum W P n ≤ n * M := by
  intro n
  induction n with
  | zero => intro _; simp [nsum]
  | succ n ih =>
    intro h
    have := ih (fun b hb => h b (by omega))
    have h2 := h n (by omega)
    rw [nsum, Nat.succ_mul]
    split <;> omega
theorem wat_loop {k l p : Nat} {f : Nat → Int32} {B : Nat} {P3 P4 v : Int32} (hB : B ≤ 24) : ∀ n i, i ≤ B → B - i < n → f_X1_weightAt_b27 k f (Int32.ofNat l) (Int32.ofNat p) P3 P4 n (Int32.ofNat B) (v + zsum (fun b => f (8 + b * 11 + 4)) (zat (fun b => f (8 + b * 11 + 9)) (5 * l + p)) i) (Int32.ofNat i) = some (FP.i2f (v + zsum (fun b => f (8 + b * 11 + 4)) (zat (fun b => f (8 + b * 11 + 9)) (5 * l + p)) B)) := by
  intro n
  induction n with
  | zero => intro i _ h; omega
  | succ n ih =>
    intro i hi hn
    rw [f_X1_weightAt_b27]
    by_cases h : i < B
    · rw [if_neg (fun q => absurd ((n_le (by omega) (by omega)).mp q) (by omega)), s_blk9 (by omega), s_blk4 (by omega)]
      simp (disch := omega) only [zl_e, zb1_some, zb2_some, zb3_some, zb4_some, zb5_some, m_g, n_nat, n_suc]
      rw [n_5l]
      have := ih (i + 1) (by omega) (by omega)
      rw [zsum] at this
      by_cases hq : f (8 + i * 11 + 9) = Int32.ofNat (5 * l + p)
      · rw [if_pos (show zat _ _ i = true from decide_eq_true hq), ← Int32.add_assoc] at this
        rw [if_pos hq]
        exact this
      · rw [if_neg (show ¬ zat _ _ i = true from by unfold zat; simpa using hq)] at this
        rw [if_neg hq]
        exact this
    · have : i = B := by omega
      subst this
      rw [if_pos ((n_le (by omega) (by omega)).mpr (Nat.le_refl _))]
      rfl
theorem s_wat {k l p : Nat} {f : Nat → Int32} {B O : Nat} {P3 P4 : Int32} (c : CI f B O) (hk : 25 ≤ k) : f_X1_weightAt k f (Int32.ofNat l) (Int32.ofNat p) P3 P4 = some (FP.i2f ((if Int32.ofNat p = P3 then P4 else 0) + zsum (fun b => f (8 + b * 11 + 4)) (zat (fun b => f (8 + b * 11 + 9)) (5 * l + p)) B)) := by
  have hB := c.hB
  rw [f_X1_weightAt, s_cell6, zb1_some, c.f6]
  have h1 := wat_loop (k := k) (l := l) (p := p) (f := f) (P3 := P3) (P4 := P4) (v := P4) hB k 0 (by omega) (by omega)
  have h2 := wat_loop (k := k) (l := l) (p := p) (f := f) (P3 := P3) (P4 := P4) (v := 0) hB k 0 (by omega) (by omega)
  rw [zsum, Int32.add_zero] at h1 h2
  by_cases h : Int32.ofNat p = P3
  · rw [if_pos h, if_pos h]; exact h1
  · rw [if_neg h, if_neg h]; exact h2
theorem n_4sub {p : Nat} (h : p < 5) : (4 : Int32) - Int32.ofNat p = Int32.ofNat (4 - p) := n_sub (a := 4) (by omega)
theorem ax_step {N w j : Nat} (hN : N + w * j < 16777216) (hw : w < 16777216) (hj : j < 16777216) (hwj : w * j < 16777216) :
    FP.fmul (FP.i2f (Int32.ofNat w)) (FP.i2f (Int32.ofNat j)) = fb (w * j) 0 ∧ FP.fdiv (fb (w * j) 0) (1082130432 : UInt32) = fb (w * j) (-2) ∧ FP.fadd (fb N (-2)) (fb (w * j) (-2)) = fb (N + w * j) (-2) ∧ z32 (fb (w * j) 0) = true ∧ z32 (fb (w * j) (-2)) = true ∧ z32 (fb (N + w * j) (-2)) = true := by
  refine ⟨?_, ?_, fb_add hN (by omega) (by omega), z32_fb hwj (by omega) (by omega), z32_fb hwj (by omega) (by omega), z32_fb hN (by omega) (by omega)⟩
  · rw [fb_i2f hw, fb_i2f hj, fb_mul hw hj hwj (by omega) (by omega) (by omega) (by omega) (by omega) (by omega)]
    rfl
  · rw [fb_div (j := 2) fb_4 hwj (by omega) (by omega) (by omega) (by omega) (by omega)]
    rfl
def axn (w : Nat → Nat) (j : Nat → Nat) : Nat := 0 + w 0 * j 0 + w 1 * j 1 + w 2 * j 2 + w 3 * j 3 + w 4 * j 4
theorem m400 {a j : Nat} (ha : a ≤ 400000) (hj : j ≤ 4) : a * j ≤ 1600000 := Nat.le_trans (Nat.mul_le_mul ha hj) (by omega)
theorem s_front {k l : Nat} {f : Nat → Int32} {P3 P4 : Int32} {w : Nat → Nat} (hk : 25 ≤ k) (hb : ∀ p, w p ≤ 400000) (hw : ∀ p, p < 5 → f_X1_weightAt k f (Int32.ofNat l) (Int32.ofNat p) P3 P4 = some (FP.i2f (Int32.ofNat (w p)))) : f_X1_front k f (Int32.ofNat l) P3 P4 = some (fb (axn w (fun p => 4 - p)) (-2)) := by
  have st : ∀ (m p N : Nat), p < 5 → N + w p * (4 - p) < 16777216 → f_X1_front_b6 k f (Int32.ofNat l) P3 P4 (m + 1) (fb N (-2)) (Int32.ofNat p) = f_X1_front_b6 k f (Int32.ofNat l) P3 P4 m (fb (N + w p * (4 - p)) (-2)) (Int32.ofNat (p + 1)) := by
    intro m p N hp hN
    have hbp := hb p
    have hm := m400 (j := 4 - p) hbp (by omega)
    obtain ⟨a1, a2, a3, a4, a5, a6⟩ := ax_step (w := w p) (j := 4 - p) hN (by omega) (by omega) (by omega)
    rw [f_X1_front_b6, if_neg (n_ge5 hp), hw p hp, n_4sub hp]
    simp (disch := omega) only [zl_e, zb1_some, zb2_some, zb3_some, zb4_some, zb5_some, m_g, n_nat, n_suc]
    rw [a1, a4, zg_true, a2, a5, zg_true, a3, a6, zg_true]
  obtain ⟨n, hn⟩ : ∃ n, k = n + 6 := ⟨k - 6, by omega⟩
  have e : ∀ j, f_X1_front_b6 k f (Int32.ofNat l) P3 P4 (j + 6) (fb 0 (-2)) (Int32.ofNat 0) = some (fb (axn w (fun p => 4 - p)) (-2)) := by
    intro j
    have h0 := m400 (j := 4) (hb 0) (by omega)
    have h1 := m400 (j := 3) (hb 1) (by omega)
    have h2 := m400 (j := 2) (hb 2) (by omega)
    have h3 := m400 (j := 1) (hb 3) (by omega)
    have h4 := m400 (j := 0) (hb 4) (by omega)
    rw [st _ 0 _ (by omega) (by show 0 + w 0 * 4 < _; omega), st _ 1 _ (by omega) (by show 0 + w 0 * 4 + w 1 * 3 < _; omega), st _ 2 _ (by omega) (by show 0 + w 0 * 4 + w 1 * 3 + w 2 * 2 < _; omega), st _ 3 _ (by omega) (by show 0 + w 0 * 4 + w 1 * 3 + w 2 * 2 + w 3 * 1 < _; omega), st _ 4 _ (by omega) (by show 0 + w 0 * 4 + w 1 * 3 + w 2 * 2 + w 3 * 1 + w 4 * 0 < _; omega), f_X1_front_b6, if_pos (by decide)]
    rfl
  rw [f_X1_front]
  have := e n
  rw [← hn, fb_0] at this
  exact this
theorem s_rear {k l : Nat} {f : Nat → Int32} {P3 P4 : Int32} {w : Nat → Nat} (hk : 25 ≤ k) (hb : ∀ p, w p ≤ 400000) (hw : ∀ p, p < 5 → f_X1_weightAt k f (Int32.ofNat l) (Int32.ofNat p) P3 P4 = some (FP.i2f (Int32.ofNat (w p)))) : f_X1_rear k f (Int32.ofNat l) P3 P4 = some (fb (axn w (fun p => p)) (-2)) := by
  have st : ∀ (m p N : Nat), p < 5 → N + w p * p < 16777216 → f_X1_rear_b6 k f (Int32.ofNat l) P3 P4 (m + 1) (fb N (-2)) (Int32.ofNat p) = f_X1_rear_b6 k f (Int32.ofNat l) P3 P4 m (fb (N + w p * p) (-2)) (Int32.ofNat (p + 1)) := by
    intro m p N hp hN
    have hbp := hb p
    have hm := m400 (j := p) hbp (by omega)
    obtain ⟨a1, a2, a3, a4, a5, a6⟩ := ax_step (w := w p) (j := p) hN (by omega) (by omega) (by omega)
    rw [f_X1_rear_b6, if_neg (n_ge5 hp), hw p hp]
    simp (disch := omega) only [zl_e, zb1_some, zb2_some, zb3_some, zb4_some, zb5_some, m_g, n_nat, n_suc]
    rw [a1, a4, zg_true, a2, a5, zg_true, a3, a6, zg_true]
  obtain ⟨n, hn⟩ : ∃ n, k = n + 6 := ⟨k - 6, by omega⟩
  have e : ∀ j, f_X1_rear_b6 k f (Int32.ofNat l) P3 P4 (j + 6) (fb 0 (-2)) (Int32.ofNat 0) = some (fb (axn w (fun p => p)) (-2)) := by
    intro j
    have h0 := m400 (j := 0) (hb 0) (by omega)
    have h1 := m400 (j := 1) (hb 1) (by omega)
    have h2 := m400 (j := 2) (hb 2) (by omega)
    have h3 := m400 (j := 3) (hb 3) (by omega)
    have h4 := m400 (j := 4) (hb 4) (by omega)
    rw [st _ 0 _ (by omega) (by omega), st _ 1 _ (by omega) (by omega), st _ 2 _ (by omega) (by omega), st _ 3 _ (by omega) (by omega), st _ 4 _ (by omega) (by omega), f_X1_rear_b6, if_pos (by decide)]
    rfl
  rw [f_X1_rear]
  have := e n
  rw [← hn, fb_0] at this
  exact this
