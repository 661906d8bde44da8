/-! THE LAW -/
def zf0 : Nat → Int32 := upd (upd (upd (upd (upd (upd (upd (upd (upd (upd (upd (upd (upd (fun _ => 0) 0 2) 1 12) 2 (-3)) 3 5) (332 + 0 * 4 + 0) 4000) (332 + 0 * 4 + 1) 8000) (332 + 0 * 4 + 2) 10000) (332 + 1 * 4 + 0) 4000) (332 + 1 * 4 + 1) 8000) (332 + 1 * 4 + 2) 10000) (332 + 2 * 4 + 0) 4000) (332 + 2 * 4 + 1) 8000) (332 + 2 * 4 + 2) 10000
theorem s_init {k : Nat} (hk : 25 ≤ k) : f_X5_init k (fun _ => 0) = some zf0 := by
  obtain ⟨n, rfl⟩ : ∃ n, k = n + 4 := ⟨k - 4, by omega⟩
  have st : ∀ (m i : Nat) (f : Nat → Int32), i < 3 → f_X5_init_b41 (n + 4) (m + 1) f (Int32.ofNat i) = f_X5_init_b41 (n + 4) m (upd (upd (upd f (332 + i * 4 + 0) 4000) (332 + i * 4 + 1) 8000) (332 + i * 4 + 2) 10000) (Int32.ofNat (i + 1)) := fun m i f hi => by
    rw [f_X5_init_b41, if_neg (show ¬ (3 : Int32) ≤ Int32.ofNat i from fun t => absurd ((n_le (a := 3) (by omega) (by omega)).mp t) (by omega)), s_slor0 hi, zb1_some, s_slor1 hi, zb1_some, s_slor2 hi, zb1_some, zl_e, n_suc]
  rw [f_X5_init, s_set0, zb1_some, s_set1, zb1_some, s_set2, zb1_some, s_set3, zb1_some]
  show f_X5_init_b41 (n + 4) (n + 3 + 1) _ (Int32.ofNat 0) = _
  rw [st _ 0 _ (by omega), st _ 1 _ (by omega), st _ 2 _ (by omega), f_X5_init_b41, if_pos (by decide)]
  rfl
theorem inv_0 : Inv zf0 0 0 0 := by
  have lm : ∀ l, l < 3 → ∀ w, w < 3 → zf0 (332 + l * 4 + w) = Int32.ofNat (if w = 0 then 4000 else if w = 1 then 8000 else 10000) := by decide
  refine ⟨⟨by omega, by omega, by decide, by decide⟩, ⟨by decide, by decide, by decide, by decide, 0, by omega, by decide⟩, fun l hl w hw => ⟨if w = 0 then 4000 else if w = 1 then 8000 else 10000, ?_, ?_, lm l hl w hw⟩, fun b hb => absurd hb (Nat.not_lt_zero _), fun b hb => absurd hb (Nat.not_lt_zero _), fun b hb => absurd hb (Nat.not_lt_zero _), ?_⟩
  · repeat (first | (split; omega) | split)
    all_goals omega
  · repeat (first | (split; omega) | split)
    all_goals omega
  · unfold IS
    rw [nsum, nsum, zcnt]
    omega
theorem o_mean0 {k t O : Nat} {f : Nat → Int32} (R : Inv f t 0 O) (hk : 25 ≤ k) : f_X7_meanWeight k f = some 0 := by
  rw [f_X7_meanWeight, s_uncut R.c hk, zb1_some, s_pop (by omega), zb1_some]
  rfl
theorem cell_ok {k L j : Nat} {xs : Nat → Int32} (hL : L ≤ 260) (hj : j < 2147483648) : ∃ v, f_L_cell k L xs (Int32.ofNat j) = some v := by
  rw [f_L_cell]
  by_cases h : j < L
  · rw [if_neg (fun q => absurd ((n_le (by omega) (by omega)).mp q) (by omega)), n_zin h (by omega), zg_true, zl_e]
    exact ⟨_, rfl⟩
  · rw [if_pos ((n_le (by omega) (by omega)).mpr (by omega))]
    exact ⟨_, rfl⟩
theorem l_loop {k L T : Nat} {xs : Nat → Int32} {pl : Int32} (hk : 400 ≤ k) (hL : L ≤ 260) (hT : T ≤ 32) : ∀ m i f g n h B O, i ≤ T → T - i < m → n < 7 → h ≤ 6 → Inv f i B O → f_L_law_b61 k L xs pl m f g (Int32.ofNat n) (Int32.ofNat h) 1 (Int32.ofNat T) (Int32.ofNat i) = some 1 := by
  intro m
  induction m with
  | zero => intro i _ _ _ _ _ _ _ h; omega
  | succ m ih =>
    intro i f g n h B O hi hm hn hh R
    rw [f_L_law_b61]
    by_cases hiT : i < T
    · obtain ⟨v6, e6⟩ := cell_ok (k := k) (xs := xs) (j := 3 * i) hL (by omega)
      obtain ⟨v10, e10⟩ := cell_ok (k := k) (xs := xs) (j := 3 * i + 1) hL (by omega)
      obtain ⟨v13, e13⟩ := cell_ok (k := k) (xs := xs) (j := 3 * i + 2) hL (by omega)
      obtain ⟨v7, e7⟩ := low_ok (k := k) (p1 := v6) (p2 := 21) (by decide)
      have m3 : (3 : Int32) * Int32.ofNat i = Int32.ofNat (3 * i) := n_mul 3 i
      have p1 : Int32.ofNat (3 * i) + 1 = Int32.ofNat (3 * i + 1) := n_add _ 1
      have p2 : Int32.ofNat (3 * i) + 2 = Int32.ofNat (3 * i + 2) := n_add _ 2
      obtain ⟨r, f', g', n', h', B', O', ec, hn', hh', R', eh⟩ := l_change (k := k) (g := g) (pl := pl) (p2 := v7) (p3 := v10) (p4 := v13) R (by omega) hn hh
      rw [if_neg (fun q => absurd ((n_le (by omega) (by omega)).mp q) (by omega)), if_neg n10, o_c16, zb1_some]
      simp only [zl_e, m3, p1, p2, e6, e10, e13, e7, zb1_some, ec, zb5_some, o_c16]
      have b185 : ∀ f'' g'' n'' h'', n'' < 7 → h'' ≤ 6 → Inv f'' (i + 1) B' O' → f_L_law_b185 k L xs pl (f_L_law_b61 k L xs pl m) f'' g'' (Int32.ofNat n'') (Int32.ofNat h'') (Int32.ofNat T) (Int32.ofNat i) = some 1 := fun f'' g'' n'' h'' q1 q2 q3 => by
        rw [f_L_law_b185, f_L_law_b190, zl_e, n_suc]
        exact ih (i + 1) f'' g'' n'' h'' B' O' (by omega) (by omega) q1 q2 q3
      have b150 : f_L_law_b150 k L xs pl (f_L_law_b61 k L xs pl m) f' g' (Int32.ofNat n') (Int32.ofNat h') (Int32.ofNat T) (Int32.ofNat i) (Int32.ofNat h') (Int32.ofNat h') = some 1 := by
        rw [f_L_law_b150, if_pos rfl, l_hold1 R' (by omega), zb1_some, if_neg n10]
        simp only [zl_e, m3, p2, e13, zb1_some]
        by_cases q3 : Int32.ofNat i - Int32.ofNat i / 4 * 4 = 3
        · rw [if_pos q3]
          obtain ⟨f2, g2, n2, h2, et, u1, u2, u3⟩ := l_tries (k := k) (g := g') (pl := pl) (p2 := v13) R' (by omega) hk hn' hh'
          rw [et, zb5_some, if_neg n10]
          exact b185 f2 g2 n2 h2 u1 u2 (R'.al u3)
        · rw [if_neg q3]
          exact b185 f' g' n' h' hn' hh' R'
      by_cases q : r < 0
      · rw [if_pos q] at eh
        rw [if_neg (show ¬ (0 : Int32) ≤ r from fun w => by rw [i_le] at w; rw [i_lt] at q; omega), ← eh]
        exact b150
      · rw [if_neg q] at eh
        rw [if_pos (show (0 : Int32) ≤ r from by rw [i_le]; rw [i_lt] at q; omega)]
        by_cases q6 : h = 6
        · rw [if_pos q6] at eh
          rw [if_pos (show Int32.ofNat h = 6 by rw [q6]; rfl), show (6 : Int32) = Int32.ofNat h' by rw [eh]; rfl]
          exact b150
        · rw [if_neg q6] at eh
          rw [if_neg (show ¬ Int32.ofNat h = 6 from fun w => q6 ((n_inj (b := 6) (by omega) (by omega)).mp w)), n_suc, ← eh]
          exact b150
    · have : i = T := by omega
      subst this
      rw [if_pos ((n_le (by omega) (by omega)).mpr (Nat.le_refl _))]
theorem law_1 {L : Nat} {xs : Nat → Int32} (hL : L ≤ 260) : f_law 1000 L xs zf0 (fun _ _ => 0) 0 0 0 = some 1 := by
  have u : f_X7_undo 1000 zf0 (fun _ _ => 0) 0 0 = some (-5, zf0, 0, 0) := un_0 (n := 0)
  have lp : ∀ T, T ≤ 32 → f_L_law_b61 1000 L xs 0 1000 zf0 (fun _ _ => 0) 0 0 1 (Int32.ofNat T) 0 = some 1 := fun T hT => l_loop (k := 1000) (by omega) hL hT 1000 0 zf0 (fun _ _ => 0) 0 0 0 0 (by omega) (by omega) (by omega) (by omega) inv_0
  have d3 : Int32.ofNat L / 3 = Int32.ofNat (L / 3) := by rw [show (3 : Int32) = Int32.ofNat 3 from rfl, Int32.ofNat_div (by omega) (by omega)]
  rw [f_law, l_hold1 inv_0 (by omega), zb1_some, if_neg n10, u, zb4_some, if_pos rfl, o_mean0 inv_0 (by omega), zb1_some, zl_e, if_pos (by decide), f_L_law_b38, zl_e, d3]
  by_cases q : L / 3 ≤ 32
  · rw [if_pos (show Int32.ofNat (L / 3) ≤ 32 from (n_le (b := 32) (by omega) (by omega)).mpr q), zl_e, f_L_law_b57]
    exact lp (L / 3) q
  · rw [if_neg (show ¬ Int32.ofNat (L / 3) ≤ 32 from fun w => q ((n_le (b := 32) (by omega) (by omega)).mp w)), f_L_law_b57]
    exact lp 32 (by omega)
