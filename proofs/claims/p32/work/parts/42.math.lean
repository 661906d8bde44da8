/-! AN ORDER AS THE LAW SEES IT -/
theorem i_regroup (g s l a b c : Int32) : (g - a) + ((s - g - l) - b) + (l - c) = s - a - b - c := by
  grind
theorem give_more {f : Nat → Int32} {t B O σ o b : Nat} (R : InvS f t B O σ) (hb : b < B) (h : ¬ zgiv f o b = -6) :
    f (272 + o * 6 + 3) = 0 ∧ f (8 + b * 11 + 7) = 0 ∧ f (8 + b * 11 + 8) = -6 ∧ ¬ (3 : Int32) ≤ f (8 + b * 11 + 5) ∧ f (8 + b * 11 + 0) + f (8 + b * 11 + 1) + f (8 + b * 11 + 2) - f (272 + o * 6 + 0) - f (272 + o * 6 + 1) - f (272 + o * 6 + 2) = zgiv f o b ∧ ¬ zgiv f o b < 0 ∧ ¬ 3 * f 3 < zgiv f o b := by
  obtain ⟨-, -, -, ⟨v0, v1⟩, -⟩ := R.g
  obtain ⟨-, -, -, ⟨w, w1, w2⟩, -⟩ := R.blk b hb
  unfold zgiv at h ⊢
  by_cases q : f (272 + o * 6 + 3) = 0 ∧ ¬ f (8 + b * 11 + 5) = 3 ∧ ¬ f (8 + b * 11 + 5) = 4 ∧ f (8 + b * 11 + 8) = -6 ∧ f (8 + b * 11 + 7) = 0
  · rw [if_pos q] at h ⊢
    obtain ⟨q0, q1, q2, q3, q4⟩ := q
    refine ⟨q0, q4, q3, ?_, ?_⟩
    · rw [w2] at q1 q2 ⊢
      rw [show (3 : Int32) = Int32.ofNat 3 from rfl, n_le (by omega) (by omega)]
      intro t
      have c : w = 3 ∨ w = 4 := by omega
      rcases c with rfl | rfl
      · exact q1 rfl
      · exact q2 rfl
    · unfold zsur at h ⊢
      split
      · rename_i hc
        rw [if_pos hc] at h
        obtain ⟨⟨a1, a2⟩, ⟨b1, b2⟩, ⟨d1, d2⟩⟩ := hc
        refine ⟨(i_regroup _ _ _ _ _ _).symm, ?_⟩
        have t0 : (0 : Int32).toInt = 0 := by decide
        rw [i_lt, t0] at a1 b1 d1
        rw [i_lt] at a2 b2 d2
        generalize zmx (f (8 + b * 11 + 0)) (zmx (f (8 + b * 11 + 1)) (f (8 + b * 11 + 2))) - f (272 + o * 6 + 0) = X at *
        generalize zmn (f (8 + b * 11 + 0)) (zmn (f (8 + b * 11 + 1)) (f (8 + b * 11 + 2))) - f (272 + o * 6 + 2) = Z at *
        generalize f (8 + b * 11 + 0) + f (8 + b * 11 + 1) + f (8 + b * 11 + 2) - zmx (f (8 + b * 11 + 0)) (zmx (f (8 + b * 11 + 1)) (f (8 + b * 11 + 2))) - zmn (f (8 + b * 11 + 0)) (zmn (f (8 + b * 11 + 1)) (f (8 + b * 11 + 2))) - f (272 + o * 6 + 1) = Y at *
        have y1 : (X + Y).toInt = X.toInt + Y.toInt := i_add (by omega) (by omega)
        have y2 : (X + Y + Z).toInt = X.toInt + Y.toInt + Z.toInt := by rw [i_add (by rw [y1]; omega) (by rw [y1]; omega), y1]
        have ev : f 3 = Int32.ofNat (f 3).toInt.toNat := by
          rw [i_eq, i_nat (by omega)]
          omega
        have y3 : (3 * f 3).toInt = 3 * (f 3).toInt := by
          rw [ev, show (3 : Int32) = Int32.ofNat 3 from rfl, n_mul, i_nat (by omega), i_nat (by omega)]
          omega
        rw [i_lt, i_lt, y2, y3, t0]
        omega
      · rename_i hc
        rw [if_neg hc] at h
        exact absurd rfl h
  · rw [if_neg q] at h
    exact absurd rfl h
theorem o_best {k o B O : Nat} {f : Nat → Int32} (c : CI f B O) (hk : 25 ≤ k) (ho : o < O) : (f (272 + o * 6 + 3) = 0 → ∃ r, f_X7_bestBlock k f (Int32.ofNat o) = some r ∧ Best (fun b => ¬ zgiv f o b = -6) (fun b => (zgiv f o b).toInt) 0 B r) ∧ (¬ f (272 + o * 6 + 3) = 0 → f_X7_bestBlock k f (Int32.ofNat o) = some (-5)) := by
  have hO := c.hO
  rw [f_X7_bestBlock, h_ord1 c k ho, zb1_some, if_neg n10, s_ord3 (by omega), zb1_some]
  constructor
  · intro q
    rw [if_pos q]
    obtain ⟨r, h1, h2⟩ := s_near (k := k) c hk (show o < 10 by omega)
    exact ⟨r, by rw [h1, zb1_some], h2⟩
  · intro q
    rw [if_neg q]
theorem zgiv_none {f : Nat → Int32} {o b : Nat} (h : ¬ f (272 + o * 6 + 3) = 0) : zgiv f o b = -6 := by
  unfold zgiv
  rw [if_neg (fun q => h q.1)]
/-- the set as the law has it, the least and the first of it -/
def zset (f : Nat → Int32) (o B : Nat) : Int32 := zbs (fun i => !decide (zgiv f o i = -6)) B
theorem l_ord_loop {k t B O σ o : Nat} {f : Nat → Int32} {hz pl : Int32} (R : InvS f t B O σ) (hk : 25 ≤ k) (ho : o < O) : ∀ i n x6 x7, i ≤ B → i < n →
    ((x7 = -6 ∧ x6 = -6 ∧ ∀ b, i ≤ b → b < B → zgiv f o b = -6) ∨ ∃ b0, i ≤ b0 ∧ b0 < B ∧ x7 = Int32.ofNat b0 ∧ x6 = zgiv f o b0 ∧ ¬ zgiv f o b0 = -6 ∧ ∀ b, i ≤ b → b < B → ¬ zgiv f o b = -6 → (zgiv f o b0).toInt ≤ (zgiv f o b).toInt ∧ (b < b0 → (zgiv f o b0).toInt < (zgiv f o b).toInt)) →
    f_L_isOrder_b129 k f hz pl (Int32.ofNat o) n (f (272 + o * 6 + 3)) (zset f o B) 1 x6 x7 (Int32.ofNat i + (-1)) = some 1 := by
  have hB := R.c.hB
  have hO := R.c.hO
  intro i
  induction i with
  | zero =>
    intro n x6 x7 _ hn hI
    obtain ⟨n, rfl⟩ : ∃ m, n = m + 1 := ⟨n - 1, by omega⟩
    obtain ⟨ob1, ob2⟩ := o_best (k := k) R.c hk ho
    rw [f_L_isOrder_b129, if_pos (by decide), if_neg n10]
    by_cases q : f (272 + o * 6 + 3) = 0
    · obtain ⟨r, r1, r2⟩ := ob1 q
      have : r = x7 := by
        refine r2.uniq (r' := x7) ?_
        rcases hI with ⟨e1, e2, e3⟩ | ⟨b0, h1, h2, e1, e2, h3, h4⟩
        · exact .inl ⟨e1, fun b _ hb hh => hh (e3 b (Nat.zero_le _) hb)⟩
        · exact .inr ⟨b0, h1, h2, e1, h3, h4⟩
      rw [if_pos q, r1, zb1_some, if_pos this]
      rfl
    · have z : zset f o B = 0 := by
        unfold zset
        rw [b_empty (by omega)]
        exact fun i _ => by rw [zgiv_none q]; rfl
      rw [if_neg q, if_pos z, ob2 q, zb1_some, if_pos rfl]
      rfl
  | succ i ih =>
    intro n x6 x7 hi hn hI
    obtain ⟨n, rfl⟩ : ∃ m, n = m + 1 := ⟨n - 1, by omega⟩
    have hb : i < B := by omega
    have b302 : ∀ x5 a b, f_L_isOrder_b302 k f hz pl (Int32.ofNat o) (f_L_isOrder_b129 k f hz pl (Int32.ofNat o) n) (f (272 + o * 6 + 3)) (zset f o B) x5 a b (Int32.ofNat i) = f_L_isOrder_b129 k f hz pl (Int32.ofNat o) n (f (272 + o * 6 + 3)) (zset f o B) x5 a b (Int32.ofNat i + (-1)) := fun x5 a b => by
      rw [f_L_isOrder_b302, zl_e]
    rw [f_L_isOrder_b129, n_pred, if_neg (n_lt0 (by omega)), o_of0 R.c hb, o_of1 R.c hb, o_of2 R.c hb, o_or0 R.c ho, o_or1 R.c ho, o_or2 R.c ho, o_of7 R.c hb, o_of8 R.c hb, o_of5 R.c hb, o_c14 R.c]
    simp only [zb1_some, zl_e, b302]
    rw [show zset f o B >>> (Int32.ofNat i &&& 31) &&& 1 = if (!decide (zgiv f o i = -6)) = true then 1 else 0 from bit_if (P := fun i => !decide (zgiv f o i = -6)) hB hb]
    by_cases hg : zgiv f o i = -6
    · rw [if_neg (show ¬ (if (!decide (zgiv f o i = -6)) = true then (1 : Int32) else 0) = 1 by simp [hg])]
      refine ih n x6 x7 (by omega) (by omega) ?_
      rcases hI with ⟨e1, e2, e3⟩ | ⟨b0, h1, h2, e1, e2, h3, h4⟩
      · refine .inl ⟨e1, e2, fun b b1 b2 => ?_⟩
        by_cases e : b = i
        · rw [e]; exact hg
        · exact e3 b (by omega) b2
      · refine .inr ⟨b0, by omega, h2, e1, e2, h3, fun b b1 b2 b3 => ?_⟩
        by_cases e : b = i
        · subst e; exact absurd hg b3
        · exact h4 b (by omega) b2 b3
    · obtain ⟨m0, m1, m2, m3, m4, m5, m6⟩ := give_more R hb hg
      rw [if_pos (show (if (!decide (zgiv f o i = -6)) = true then (1 : Int32) else 0) = 1 by simp [hg]), if_neg n10, if_pos m1, if_pos m2, if_neg m3, m4, if_neg m5, if_neg m6]
      simp only [f_L_isOrder_b254, f_L_isOrder_b270, f_L_isOrder_b277, f_L_isOrder_b293, f_L_isOrder_b300, b302]
      rcases hI with ⟨e1, e2, e3⟩ | ⟨b0, h1, h2, e1, e2, h3, h4⟩
      · rw [if_pos e2, if_pos e2]
        refine ih n _ _ (by omega) (by omega) (.inr ⟨i, Nat.le_refl _, hb, rfl, rfl, hg, fun b b1 b2 b3 => ?_⟩)
        by_cases e : b = i
        · subst e; exact ⟨Int.le_refl _, fun t => absurd t (Nat.lt_irrefl _)⟩
        · exact absurd (e3 b (by omega) b2) b3
      · have n6 : ¬ x6 = -6 := by rw [e2]; exact h3
        rw [if_neg n6, if_neg n6, if_neg n6]
        by_cases hl : x6 < zgiv f o i
        · have hle : x6 ≤ zgiv f o i := by rw [i_lt] at hl; rw [i_le]; omega
          rw [if_pos hl, if_pos hle]
          refine ih n _ _ (by omega) (by omega) (.inr ⟨b0, by omega, h2, e1, e2, h3, fun b b1 b2 b3 => ?_⟩)
          rw [e2, i_lt] at hl
          by_cases e : b = i
          · subst e; exact ⟨by omega, fun _ => hl⟩
          · exact h4 b (by omega) b2 b3
        · rw [if_neg hl]
          rw [e2, i_lt] at hl
          have keep : ∀ b, i ≤ b → b < B → ¬ zgiv f o b = -6 → (zgiv f o i).toInt ≤ (zgiv f o b).toInt ∧ (b < i → (zgiv f o i).toInt < (zgiv f o b).toInt) := fun b b1 b2 b3 => by
            by_cases e : b = i
            · subst e; exact ⟨Int.le_refl _, fun t => absurd t (Nat.lt_irrefl _)⟩
            · have := (h4 b (by omega) b2 b3).1
              exact ⟨by omega, fun _ => by omega⟩
          by_cases hle : x6 ≤ zgiv f o i
          · have ee : x6 = zgiv f o i := by
              rw [e2, i_le] at hle
              rw [e2, i_eq]
              omega
            rw [if_pos hle]
            exact ih n _ _ (by omega) (by omega) (.inr ⟨i, Nat.le_refl _, hb, rfl, ee, hg, keep⟩)
          · rw [if_neg hle]
            exact ih n _ _ (by omega) (by omega) (.inr ⟨i, Nat.le_refl _, hb, rfl, rfl, hg, keep⟩)
theorem l_ord {k t B O σ o : Nat} {f : Nat → Int32} {hz pl : Int32} (R : InvS f t B O σ) (hk : 25 ≤ k) (ho : o < O) : f_L_isOrder k f hz pl (Int32.ofNat o) = some 1 := by
  have hB := R.c.hB
  have hO := R.c.hO
  obtain ⟨⟨x, y, z, z1, zy, yx, x3, e0, e1, e2⟩, hs⟩ := R.ord o ho
  have b110 : f_L_isOrder_b110 k f hz pl (Int32.ofNat o) (f (272 + o * 6 + 3)) (zset f o B) 1 = some 1 := by
    rw [f_L_isOrder_b110, o_c1 R.c, zb1_some, zl_e, show Int32.ofNat B - 1 = Int32.ofNat B + (-1) from Int32.sub_eq_add_neg ..]
    exact l_ord_loop R hk ho B k _ _ (Nat.le_refl _) (by omega) (.inl ⟨rfl, rfl, fun b b1 b2 => by omega⟩)
  have s6 : f_X7_ofOrder k f (Int32.ofNat o) 6 = some (zset f o B) := o_or6 R.c hk ho
  rw [f_L_isOrder, o_or3 R.c ho, o_or4 R.c ho, s6, o_or0 R.c ho, o_or1 R.c ho, o_or2 R.c ho]
  simp only [zb1_some]
  rw [if_neg (show ¬ f (272 + o * 6 + 0) < f (272 + o * 6 + 1) by rw [e0, e1, n_lt (by omega) (by omega)]; omega), if_neg (show ¬ f (272 + o * 6 + 1) < f (272 + o * 6 + 2) by rw [e1, e2, n_lt (by omega) (by omega)]; omega)]
  simp only [f_L_isOrder_b64, f_L_isOrder_b73, f_L_isOrder_b92, f_L_isOrder_b102, o_or5 R.c ho, zb1_some]
  rcases hs with ⟨q1, q2, q3⟩ | ⟨q1, ⟨b, b1, b2⟩, q3⟩ | ⟨q1, ⟨b, b1, b2⟩, n, n1, n2⟩
  · rw [if_pos q2, if_pos q1, if_pos trivial, if_pos q3, if_neg (by rw [q1]; decide), if_pos trivial]
    exact b110
  · rw [if_neg (by rw [b2]; exact n_neg6 (by omega)), if_neg (by rw [q1]; decide), if_pos trivial, if_pos q3, if_neg (by rw [q1]; decide), if_pos trivial]
    exact b110
  · rw [if_neg (by rw [b2]; exact n_neg6 (by omega)), if_neg (by rw [q1]; decide), if_pos trivial, if_neg (by rw [n2]; exact n_neg6 (by omega)), if_pos q1, if_pos trivial]
    exact b110
