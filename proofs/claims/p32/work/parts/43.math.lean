/-! ALL OF IT GOES TOGETHER -/
theorem l_lors {k t B O σ : Nat} {f : Nat → Int32} {hz pl x1 x2 x3 : Int32} (R : InvS f t B O σ) (hk : 100 ≤ k) : ∀ n i, i ≤ 3 → 3 - i < n → f_L_holds_b200 k f hz pl n x1 x2 x3 1 (Int32.ofNat i) = f_L_holds_b225 k f hz pl x1 x2 x3 1 := by
  intro n
  induction n with
  | zero => intro i _ h; omega
  | succ n ih =>
    intro i hi hn
    rw [f_L_holds_b200]
    by_cases h : i < 3
    · rw [if_neg (show ¬ (3 : Int32) ≤ Int32.ofNat i from fun q => absurd ((n_le (a := 3) (by omega) (by omega)).mp q) (by omega)), if_neg n10, l_lor R hk h, zb1_some, zl_e, n_suc]
      exact ih (i + 1) (by omega) (by omega)
    · have : i = 3 := by omega
      subst this
      rw [if_pos (by decide)]
theorem l_ords {k t B O σ : Nat} {f : Nat → Int32} {hz pl x1 x3 : Int32} (R : InvS f t B O σ) (hk : 100 ≤ k) : ∀ n i, i ≤ O → O - i < n → f_L_holds_b143 k f hz pl n x1 (zsum (fun b => f (272 + b * 6 + 5)) (fun b => decide (f (272 + b * 6 + 3) = 2)) i) x3 1 (Int32.ofNat i) = f_L_holds_b225 k f hz pl x1 (zsum (fun b => f (272 + b * 6 + 5)) (fun b => decide (f (272 + b * 6 + 3) = 2)) O) x3 1 := by
  have hO := R.c.hO
  intro n
  induction n with
  | zero => intro i _ h; omega
  | succ n ih =>
    intro i hi hn
    rw [f_L_holds_b143, o_c2 R.c, zb1_some]
    by_cases h : i < O
    · have nx := ih (i + 1) (by omega) (by omega)
      rw [zsum] at nx
      rw [if_neg (fun q => absurd ((n_le (by omega) (by omega)).mp q) (by omega)), if_neg n10, l_ord R (by omega) h, zb1_some, o_or3 R.c h, zb1_some, o_or5 R.c h]
      simp only [f_L_holds_b189, zl_e, n_suc, zb1_some]
      by_cases q : f (272 + i * 6 + 3) = 2
      · rw [if_pos (by simpa using q)] at nx
        rw [if_pos q]
        exact nx
      · rw [if_neg (by simpa using q)] at nx
        rw [if_neg q, Int32.add_zero]
        exact nx
    · have : i = O := by omega
      subst this
      rw [if_pos ((n_le (by omega) (by omega)).mpr (Nat.le_refl _)), f_L_holds_b197]
      exact l_lors R hk k 0 (by omega) (by omega)
theorem l_blks {k t B O σ : Nat} {f : Nat → Int32} {hz pl : Int32} (R : InvS f t B O σ) (hk : 100 ≤ k) : ∀ n i, i ≤ B → B - i < n → f_L_holds_b61 k f hz pl n (zsum (fun b => f (8 + b * 11 + 4)) (fun b => !decide (f (8 + b * 11 + 5) = 4)) i) 0 (zsum (fun b => f (8 + b * 11 + 4)) (fun b => decide (f (8 + b * 11 + 5) = 3)) i) 1 (Int32.ofNat i) =
    f_L_holds_b225 k f hz pl (zsum (fun b => f (8 + b * 11 + 4)) (fun b => !decide (f (8 + b * 11 + 5) = 4)) B) (zsum (fun b => f (272 + b * 6 + 5)) (fun b => decide (f (272 + b * 6 + 3) = 2)) O) (zsum (fun b => f (8 + b * 11 + 4)) (fun b => decide (f (8 + b * 11 + 5) = 3)) B) 1 := by
  have hB := R.c.hB
  have hO := R.c.hO
  intro n
  induction n with
  | zero => intro i _ h; omega
  | succ n ih =>
    intro i hi hn
    rw [f_L_holds_b61, o_c1 R.c, zb1_some]
    by_cases h : i < B
    · have nx := ih (i + 1) (by omega) (by omega)
      rw [zsum, zsum] at nx
      rw [if_neg (fun q => absurd ((n_le (by omega) (by omega)).mp q) (by omega)), if_neg n10, l_blk R (by omega) h, zb1_some, o_of5 R.c h, zb1_some, o_of4 R.c h]
      simp only [f_L_holds_b107, f_L_holds_b132, o_of5 R.c h, o_of4 R.c h, zl_e, n_suc, zb1_some]
      by_cases q4 : f (8 + i * 11 + 5) = 4
      · rw [if_neg (show ¬ (!decide (f (8 + i * 11 + 5) = 4)) = true by simp [q4]), if_neg (show ¬ decide (f (8 + i * 11 + 5) = 3) = true by rw [q4]; decide)] at nx
        rw [if_pos q4, if_neg (show ¬ f (8 + i * 11 + 5) = 3 by rw [q4]; decide), Int32.add_zero, Int32.add_zero]
        exact nx
      · rw [if_pos (show (!decide (f (8 + i * 11 + 5) = 4)) = true by simp [q4])] at nx
        rw [if_neg q4]
        by_cases q3 : f (8 + i * 11 + 5) = 3
        · rw [if_pos (show decide (f (8 + i * 11 + 5) = 3) = true by simp [q3])] at nx
          rw [if_pos q3]
          exact nx
        · rw [if_neg (show ¬ decide (f (8 + i * 11 + 5) = 3) = true by simp [q3])] at nx
          rw [if_neg q3, Int32.add_zero]
          exact nx
    · have : i = B := by omega
      subst this
      rw [if_pos ((n_le (by omega) (by omega)).mpr (Nat.le_refl _)), f_L_holds_b140]
      exact l_ords R hk k 0 (by omega) (by omega)
theorem l_hold1 {k t B O σ : Nat} {f : Nat → Int32} {hz pl : Int32} (R : InvS f t B O σ) (hk : 100 ≤ k) : f_L_holds k f hz pl = some 1 := by
  have hB := R.c.hB
  obtain ⟨s1, s4⟩ := R.sums
  have e3 := zsum_nat (w := fun b => f (8 + b * 11 + 4)) (W := zw f) (P := fun b => decide (f (8 + b * 11 + 10) = -6)) B (fun b hb _ => (R.blk b hb).wt.1)
  have e4 := zsum_nat (w := fun b => f (8 + b * 11 + 4)) (W := zw f) (P := fun b => !decide (f (8 + b * 11 + 5) = 4)) B (fun b hb _ => (R.blk b hb).wt.1)
  have e5 := nsum_le (W := zw f) (P := fun b => decide (f (8 + b * 11 + 10) = -6)) (M := 81000) B (fun b hb => (R.blk b hb).wt.2)
  have e6 : B * 81000 ≤ 24 * 81000 := Nat.mul_le_mul_right _ hB
  have lost : ¬ zsum (fun b => f (8 + b * 11 + 4)) (fun b => decide (f (8 + b * 11 + 10) = -6)) B - zsum (fun b => f (8 + b * 11 + 4)) (fun b => !decide (f (8 + b * 11 + 5) = 4)) B < 0 := by
    rw [e3, e4, n_sub (by omega)]
    exact n_lt0 (by omega)
  have all : zsum (fun b => f (8 + b * 11 + 4)) (fun b => decide (f (8 + b * 11 + 10) = -6)) B = zsum (fun b => f (8 + b * 11 + 4)) (fun b => !decide (f (8 + b * 11 + 5) = 4)) B + (zsum (fun b => f (8 + b * 11 + 4)) (fun b => decide (f (8 + b * 11 + 10) = -6)) B - zsum (fun b => f (8 + b * 11 + 4)) (fun b => !decide (f (8 + b * 11 + 5) = 4)) B) := by
    grind
  have zl := zcnt_le (P := fun b => decide (f (8 + b * 11 + 5) = 1)) B
  have lb := l_blks (k := k) (hz := hz) (pl := pl) R hk k 0 (by omega) (by omega)
  rw [f_L_holds, o_c1 R.c, zb1_some, o_of_no R.c, zb1_some, if_pos rfl, o_c6 R.c (by omega), zb1_some, o_c7 R.c (by omega), zb1_some, o_c8 R.c (by omega), zb1_some, zl_e, if_pos all, zb1_some, if_neg lost, f_L_holds_b56]
  refine lb.trans ?_
  rw [f_L_holds_b225, if_neg n10, o_c7 R.c (by omega), zb1_some, if_pos rfl, o_c9 R.c (by omega), zb1_some, if_pos rfl, o_c10 R.c (by omega), zb1_some, if_pos rfl, o_c4 R.c (by omega), zb1_some, l_cnt (by omega) hB, zb1_some, if_neg (show ¬ (4 : Int32) < Int32.ofNat (zcnt (fun b => decide (f (8 + b * 11 + 5) = 1)) B) from fun q => absurd ((n_lt (a := 4) (by omega) (by omega)).mp q) (by omega))]
