/-! A BLOCK, AN ORDER AS THE LAW SEES THEM -/
theorem bit_if {P : Nat → Bool} {B b : Nat} (hB : B ≤ 24) (hb : b < B) : ((zbs P B >>> (Int32.ofNat b &&& 31)) &&& 1) = if P b = true then 1 else 0 := by
  rw [b_test (by omega), b_zbs B (by omega) b (by omega)]
  simp [hb]
theorem l_blk_end {k t B O σ b : Nat} {f : Nat → Int32} {hz pl : Int32} (R : InvS f t B O σ) (hk : 25 ≤ k) (hb : b < B) : f_L_isBlock_b230 k f hz pl (Int32.ofNat b) (f (8 + b * 11 + 5)) 1 = some 1 := by
  have hB := R.c.hB
  rw [f_L_isBlock_b230, if_neg n10, s_frost R.c hk, zb1_some, zl_e, zl_e, bit_if hB hb, o_of6 R.c hb, o_of7 R.c hb]
  simp only [zb1_some, f_L_isBlock_b273, f_L_isBlock_b274]
  obtain ⟨n, n1, n2⟩ := (R.blk b hb).2.2.2.2.1
  have no : zfr f b = false → ((if zfr f b = true then (1 : Int32) else 0) = 0) := fun e => by rw [e, if_neg (by decide)]
  have ye : zfr f b = true → ((if zfr f b = true then (1 : Int32) else 0) = 1) := fun e => if_pos e
  by_cases q1 : f (8 + b * 11 + 5) = 0
  · by_cases q2 : f (8 + b * 11 + 6) ≤ 0
    · have z : f (8 + b * 11 + 6) = 0 := by
        rw [n2] at q2 ⊢
        have := (n_le (b := 0) (by omega) (by omega)).mp q2
        rw [show n = 0 by omega]
        rfl
      rw [if_pos q1, if_pos q2, if_pos (no (by unfold zfr; simp [z]))]
    · have z : ¬ f (8 + b * 11 + 6) = 0 := fun r => q2 (by rw [r]; decide)
      rw [if_pos q1, if_neg q2]
      by_cases q3 : f (8 + b * 11 + 7) = 0
      · rw [if_pos q3, if_pos (ye (by unfold zfr; simp [q1, z, q3]))]
      · rw [if_neg q3, if_pos (no (by unfold zfr; simp [q3]))]
  · rw [if_neg q1, if_pos (no (by unfold zfr; simp [q1]))]
theorem l_blk {k t B O σ b : Nat} {f : Nat → Int32} {hz pl : Int32} (R : InvS f t B O σ) (hk : 25 ≤ k) (hb : b < B) : f_L_isBlock k f hz pl (Int32.ofNat b) = some 1 := by
  have hB := R.c.hB
  have hO := R.c.hO
  have t0 : (0 : Int32).toInt = 0 := by decide
  have t4 : (4 : Int32).toInt = 4 := by decide
  have t3 : (3 : Int32).toInt = 3 := by decide
  obtain ⟨h3, h4, h5, ⟨v, v1, v2⟩, ⟨n, n1, n2⟩, h8, h9, h10, h11, h12⟩ := R.blk b hb
  rw [f_L_isBlock, o_of5 R.c hb, o_of8 R.c hb, o_of9 R.c hb, o_of4 R.c hb, o_of0 R.c hb, o_of1 R.c hb, o_of2 R.c hb, o_of3 R.c hb, o_of6 R.c hb]
  simp only [zb1_some, zl_e]
  rw [if_pos h5, if_neg (show ¬ f (8 + b * 11 + 5) < 0 by rw [v2]; exact n_lt0 (by omega)), if_neg (show ¬ (4 : Int32) < f (8 + b * 11 + 5) by rw [v2]; exact fun q => absurd ((n_lt (a := 4) (by omega) (by omega)).mp q) (by omega)), if_neg (show ¬ f (8 + b * 11 + 6) < 0 by rw [n2]; exact n_lt0 (by omega)), if_neg (show ¬ (3 : Int32) < f (8 + b * 11 + 6) by rw [n2]; exact fun q => absurd ((n_lt (a := 3) (by omega) (by omega)).mp q) (by omega)), f_L_isBlock_b99, if_neg n10]
  -- from the owner on
  have b214 : f_L_isBlock_b214 k f hz pl (Int32.ofNat b) (f (8 + b * 11 + 5)) = some 1 := by
    rw [f_L_isBlock_b214, o_of10 R.c hb, zb1_some, if_neg, l_blk_end R hk hb]
    rcases h12 with q | ⟨p, p1, p2⟩
    · rw [q, i_le, i_nat (by omega), show (-6 : Int32).toInt = -6 by decide]
      omega
    · rw [p2, n_le (by omega) (by omega)]
      omega
  have b182 : f_L_isBlock_b182 k f hz pl (Int32.ofNat b) (f (8 + b * 11 + 5)) (f (8 + b * 11 + 8)) 1 = some 1 := by
    rw [f_L_isBlock_b182, if_neg n10]
    rcases h11 with q | ⟨o, o1, o2, o3, o4⟩
    · rw [if_pos q, b214]
    · have nn : ¬ f (8 + b * 11 + 8) = -6 := by rw [o2]; exact n_neg6 (by omega)
      rw [if_neg nn, o2, o_or4 R.c o1, zb1_some, if_pos o3, o_or3 R.c o1, zb1_some, o4, if_neg, b214]
      split <;> decide
  have b155 : f_L_isBlock_b155 k f hz pl (Int32.ofNat b) (f (8 + b * 11 + 5)) (f (8 + b * 11 + 8)) = some 1 := by
    rw [f_L_isBlock_b155, o_c4 R.c hk, zb1_some, zl_e, zl_e, bit_if hB hb]
    simp only [f_L_isBlock_b174, decide_eq_true_eq]
    by_cases q : f (8 + b * 11 + 5) = 1
    · rw [if_pos q, if_pos q, if_pos rfl, b182]
    · rw [if_neg q, if_neg q, if_pos rfl, b182]
  have b128 : f_L_isBlock_b128 k f hz pl (Int32.ofNat b) (f (8 + b * 11 + 5)) (f (8 + b * 11 + 8)) (f (8 + b * 11 + 9)) (if f (8 + b * 11 + 5) = 2 then 0 else 1) (if f (8 + b * 11 + 9) = -6 then 1 else 0) = some 1 := by
    rw [f_L_isBlock_b128]
    by_cases q : f (8 + b * 11 + 5) = 2
    · obtain ⟨s, s1, s2⟩ := h9 q
      have nn : ¬ f (8 + b * 11 + 9) = -6 := by rw [s2]; exact n_neg6 (by omega)
      have zo : zon (fun b => f (8 + b * 11 + 9)) (s / 5) b = true := at_zon (p := s % 5) (by omega) (by show f (8 + b * 11 + 9) = _; rw [s2, show 5 * (s / 5) + s % 5 = s by omega])
      rw [if_pos q, if_neg nn, if_pos rfl, if_neg nn, s2, zl_e, d_5 s s1, o_lo3 R.c hk (by omega), zb1_some, zl_e, zl_e, bit_if hB hb, if_pos zo, if_pos rfl, b155]
    · have s6 := h10 q
      rw [if_neg q, if_pos s6, if_pos rfl, if_pos s6, b155]
  simp only [f_L_isBlock_b118]
  by_cases q : f (8 + b * 11 + 5) = 2
  · rw [if_pos q] at b128
    rw [if_pos q, if_pos q]
    by_cases w : f (8 + b * 11 + 9) = -6
    · rw [if_pos w] at b128
      rw [if_pos w]
      exact b128
    · rw [if_neg w] at b128
      rw [if_neg w]
      exact b128
  · rw [if_neg q] at b128
    rw [if_neg q, if_neg q]
    by_cases w : f (8 + b * 11 + 9) = -6
    · rw [if_pos w] at b128
      rw [if_pos w]
      exact b128
    · rw [if_neg w] at b128
      rw [if_neg w]
      exact b128
