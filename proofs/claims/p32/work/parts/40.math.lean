/-! A LORRY AS THE LAW SEES IT -/
/-- floats of quarters beside whole numbers -/
theorem fcmp_q {n m : Nat} (hn : n < 16777216) (hm : m < 16777216) : FP.fcmp (fb n (-2)) (fb m 0) = some (compare n (4 * m)) := by
  rw [fcmp_o hn hm (by omega) (by omega) (by omega) (by omega)]
  obtain ⟨q, hq, hc⟩ := cd_form (n := n) (e := -2) hn (by omega)
  obtain ⟨r, hr, hd⟩ := cd_form (n := m) (e := 0) hm (by omega)
  rw [hc, hd]
  have e : FP.Core.order (.fin false (n * 2 ^ (-2 - q).toNat) q) (.fin false (m * 2 ^ (0 - r).toNat) r) = some (compare (FP.Core.signed false (FP.Core.inUnits (n * 2 ^ (-2 - q).toNat) q (min q r))) (FP.Core.signed false (FP.Core.inUnits (m * 2 ^ (0 - r).toNat) r (min q r)))) := rfl
  rw [e, FP.Core.compare_ite]
  obtain ⟨u, hu⟩ : ∃ u : Int, u = min q r := ⟨_, rfl⟩
  have a1 : u ≤ q := by omega
  have a2 : u ≤ r := by omega
  rw [← hu]
  unfold FP.Core.inUnits FP.Core.signed
  have x1 : n * 2 ^ (-2 - q).toNat * 2 ^ (q - u).toNat = n * 2 ^ (-2 - u).toNat := by rw [Nat.mul_assoc, pw, show (-2 - q).toNat + (q - u).toNat = (-2 - u).toNat by omega]
  have x2 : m * 2 ^ (0 - r).toNat * 2 ^ (r - u).toNat = 4 * m * 2 ^ (-2 - u).toNat := by
    rw [Nat.mul_assoc, pw, show (0 - r).toNat + (r - u).toNat = (-2 - u).toNat + 2 by omega, Nat.pow_add]
    rw [show (2 : Nat) ^ 2 = 4 from rfl]
    ac_rfl
  rw [x1, x2]
  have p := Nat.two_pow_pos (-2 - u).toNat
  generalize 2 ^ (-2 - u).toNat = P at *
  simp only [Bool.false_eq_true, if_false]
  have k1 : ((n * P : Nat) : Int) < ((4 * m * P : Nat) : Int) ↔ n < 4 * m := by
    rw [Int.ofNat_lt]
    exact Nat.mul_lt_mul_right p
  have k2 : ((n * P : Nat) : Int) = ((4 * m * P : Nat) : Int) ↔ n = 4 * m := by
    rw [Int.ofNat_inj]
    exact Nat.mul_left_inj (by omega)
  congr 1
  rw [Nat.compare_eq_ite_lt]
  by_cases c1 : n < 4 * m
  · rw [if_pos (k1.mpr c1), if_pos c1]
  · rw [if_neg (fun t => c1 (k1.mp t)), if_neg c1]
    by_cases c2 : n = 4 * m
    · rw [if_pos (k2.mpr c2), if_neg (by omega)]
    · rw [if_neg (fun t => c2 (k2.mp t)), if_pos (by omega)]
theorem cmp_q {n m : Nat} (hn : n < 16777216) (hm : m < 16777216) : Op.cmpValue (FP.fcmp (fb n (-2)) (FP.i2f (Int32.ofNat m))) CmpOp.l ≤ 0 ↔ n ≤ 4 * m := by
  rw [fb_i2f hm, fcmp_q hn hm, Nat.compare_eq_ite_lt]
  by_cases c1 : n < 4 * m
  · rw [if_pos c1]
    exact ⟨fun _ => by omega, fun _ => by decide⟩
  · rw [if_neg c1]
    by_cases c2 : 4 * m < n
    · rw [if_pos c2]
      exact ⟨fun q => absurd q (by decide), fun q => by omega⟩
    · rw [if_neg c2]
      exact ⟨fun _ => by omega, fun _ => by decide⟩
/-- why a lorry may not leave -/
def zwhy (f : Nat → Int32) (B l : Nat) : Int32 :=
  if zbs (zon (fun b => f (8 + b * 11 + 9)) l) B = 0 then 1
  else if ¬ zbs (fun b => zon (fun b => f (8 + b * 11 + 9)) l b && decide (f (8 + b * 11 + 7) = 1)) B = 0 then 2
  else if ¬ Int32.ofNat (axn (qw f B l) (fun _ => 1)) ≤ f (332 + l * 4 + 2) then 3
  else if ¬ Int32.ofNat (axn (qw f B l) (fun p => 4 - p)) ≤ 4 * f (332 + l * 4 + 0) then 4
  else if ¬ Int32.ofNat (axn (qw f B l) (fun p => p)) ≤ 4 * f (332 + l * 4 + 1) then 5 else 0
theorem i4_le {N m : Nat} (hN : N < 16777216) (hm : m ≤ 30000) : Int32.ofNat N ≤ 4 * Int32.ofNat m ↔ N ≤ 4 * m := by
  rw [show (4 : Int32) = Int32.ofNat 4 from rfl, n_mul, n_le (by omega) (by omega)]
theorem s_why {k l t B O σ : Nat} {f : Nat → Int32} (R : InvS f t B O σ) (hk : 25 ≤ k) (hl : l < 3) : f_X1_reasonToStay k f (Int32.ofNat l) = some (zwhy f B l) := by
  have hB := R.c.hB
  obtain ⟨x1, x2, x3, x4⟩ := ax_now (k := k) R hk hl
  obtain ⟨m0, a0, b0, c0⟩ := R.lm l hl 0 (by omega)
  obtain ⟨m1, a1, b1, c1⟩ := R.lm l hl 1 (by omega)
  have ld : zsum (fun b => f (8 + b * 11 + 4)) (zon (fun b => f (8 + b * 11 + 9)) l) B = Int32.ofNat (axn (qw f B l) (fun _ => 1)) := by
    rw [zsum_nat B (fun b hb _ => (R.blk b hb).wt.1), ax_load hl]
  rw [f_X1_reasonToStay, s_on R.c hk, s_bw7 R.c hk, s_lor0 hl, s_lor1 hl, s_lor2 hl, x1, x2]
  simp only [zb1_some, zl_e]
  rw [b_and (by omega), s_wof R.c hk, ld, zb1_some, c0, c1]
  unfold zwhy
  rw [c0, c1]
  simp only [cmp_q x3 (show m0 < 16777216 by omega), cmp_q x4 (show m1 < 16777216 by omega), i4_le x3 b0, i4_le x4 b1]
  generalize axn (qw f B l) (fun _ => 1) = N1
  generalize axn (qw f B l) (fun p => 4 - p) = N2
  generalize axn (qw f B l) (fun p => p) = N3
  by_cases q1 : zbs (zon (fun b => f (8 + b * 11 + 9)) l) B = 0
  · rw [if_pos q1, if_pos q1]
  · rw [if_neg q1, if_neg q1]
    by_cases q2 : zbs (fun b => zon (fun b => f (8 + b * 11 + 9)) l b && decide (f (8 + b * 11 + 7) = 1)) B = 0
    · rw [if_pos q2, if_neg (not_not_intro q2)]
      by_cases q3 : Int32.ofNat N1 ≤ f (332 + l * 4 + 2)
      · rw [if_pos q3, if_neg (not_not_intro q3)]
        by_cases q4 : N2 ≤ 4 * m0
        · rw [if_pos q4, if_neg (not_not_intro q4)]
          by_cases q5 : N3 ≤ 4 * m1
          · rw [if_pos q5, if_neg (not_not_intro q5)]
          · rw [if_neg q5, if_pos q5]
        · rw [if_neg q4, if_pos q4]
      · rw [if_neg q3, if_pos q3]
    · rw [if_neg q2, if_pos q2]
theorem o_why {k l t B O σ : Nat} {f : Nat → Int32} (R : InvS f t B O σ) (hk : 25 ≤ k) (hl : l < 3) : f_X7_why k f (Int32.ofNat l) = some (zwhy f B l) := by
  rw [f_X7_why, h_lor1 k hl, zb1_some, if_neg n10, s_why R hk hl, zb1_some]
theorem o_lo0 {k l t B O σ : Nat} {f : Nat → Int32} (R : InvS f t B O σ) (hk : 25 ≤ k) (hl : l < 3) : f_X7_ofLorry k f (Int32.ofNat l) 0 = some (Int32.ofNat (axn (qw f B l) (fun _ => 1))) := by
  rw [f_X7_ofLorry, h_lor1 k hl, zb1_some, if_neg n10, if_pos rfl, (s_ld R hk).1, zb1_some, ax_load hl]
theorem o_lo1 {k l t B O σ : Nat} {f : Nat → Int32} (R : InvS f t B O σ) (hk : 100 ≤ k) (hl : l < 3) : f_X7_ofLorry k f (Int32.ofNat l) 1 = some (zbits (axn (qw f B l) (fun p => 4 - p))) := by
  obtain ⟨x1, x2, x3, x4⟩ := ax_now (k := k) R (by omega) hl
  rw [f_X7_ofLorry, h_lor1 k hl, zb1_some, if_neg n10, if_neg (by decide), if_pos rfl, x1, zb1_some, s_bits hk x3, zb1_some]
theorem o_lo2 {k l t B O σ : Nat} {f : Nat → Int32} (R : InvS f t B O σ) (hk : 100 ≤ k) (hl : l < 3) : f_X7_ofLorry k f (Int32.ofNat l) 2 = some (zbits (axn (qw f B l) (fun p => p))) := by
  obtain ⟨x1, x2, x3, x4⟩ := ax_now (k := k) R (by omega) hl
  rw [f_X7_ofLorry, h_lor1 k hl, zb1_some, if_neg n10, if_neg (by decide), if_neg (by decide), if_pos rfl, x2, zb1_some, s_bits hk x4, zb1_some]
theorem o_lo4 {k l : Nat} {f : Nat → Int32} (hl : l < 3) : f_X7_ofLorry k f (Int32.ofNat l) 4 = some (f (332 + l * 4 + 0)) := by
  rw [f_X7_ofLorry, h_lor1 k hl, zb1_some, if_neg n10, if_neg (by decide), if_neg (by decide), if_neg (by decide), if_neg (by decide), if_pos rfl, s_lor0 hl, zb1_some]
theorem o_lo5 {k l : Nat} {f : Nat → Int32} (hl : l < 3) : f_X7_ofLorry k f (Int32.ofNat l) 5 = some (f (332 + l * 4 + 1)) := by
  rw [f_X7_ofLorry, h_lor1 k hl, zb1_some, if_neg n10, if_neg (by decide), if_neg (by decide), if_neg (by decide), if_neg (by decide), if_neg (by decide), if_pos rfl, s_lor1 hl, zb1_some]
theorem o_lo6 {k l : Nat} {f : Nat → Int32} (hl : l < 3) : f_X7_ofLorry k f (Int32.ofNat l) 6 = some (f (332 + l * 4 + 2)) := by
  rw [f_X7_ofLorry, h_lor1 k hl, zb1_some, if_neg n10, if_neg (by decide), if_neg (by decide), if_neg (by decide), if_neg (by decide), if_neg (by decide), if_neg (by decide), if_pos rfl, s_lor2 hl, zb1_some]
/-- the end of isLorry -/
theorem l_lor_end {k l t B O σ : Nat} {f : Nat → Int32} {hz pl : Int32} (R : InvS f t B O σ) (hk : 100 ≤ k) (hl : l < 3) {due : Int32} (hd : due = zwhy f B l) : f_L_isLorry_b182 k f hz pl (Int32.ofNat l) (Int32.ofNat (axn (qw f B l) (fun p => 4 - p))) (Int32.ofNat (axn (qw f B l) (fun p => p))) (Int32.ofNat (axn (qw f B l) (fun _ => 1))) due = some 1 := by
  obtain ⟨x1, x2, x3, x4⟩ := ax_now (k := k) R (by omega) hl
  have e : Int32.ofNat (axn (qw f B l) (fun p => 4 - p)) + Int32.ofNat (axn (qw f B l) (fun p => p)) = 4 * Int32.ofNat (axn (qw f B l) (fun _ => 1)) := by
    rw [n_add, axn_all, show (4 : Int32) = Int32.ofNat 4 from rfl, n_mul]
  rw [f_L_isLorry_b182, o_lo0 R (by omega) hl, zb1_some, if_pos rfl, zl_e, zl_e, if_pos e, o_lo1 R hk hl, zb1_some, l_bits hk x3, zb1_some, if_pos rfl, o_lo2 R hk hl, zb1_some, l_bits hk x4, zb1_some, if_pos rfl, o_why R (by omega) hl, zb1_some, if_pos hd.symm]
theorem l_lor_loop {k l t B O σ : Nat} {f : Nat → Int32} {hz pl : Int32} (R : InvS f t B O σ) (hk : 100 ≤ k) (hl : l < 3) : ∀ n i, i ≤ B → B - i < n →
    f_L_isLorry_b23 k f hz pl (Int32.ofNat l) n (Int32.ofNat (axn (qw f B l) (fun p => 4 - p))) (Int32.ofNat (axn (qw f B l) (fun p => p))) (Int32.ofNat (nsum (zw f) (zon (fun b => f (8 + b * 11 + 9)) l) i)) (if zbs (fun b => zon (fun b => f (8 + b * 11 + 9)) l b && decide (f (8 + b * 11 + 7) = 1)) i = 0 then 0 else 1) (Int32.ofNat i) = some 1 := by
  have hB := R.c.hB
  obtain ⟨x1, x2, x3, x4⟩ := ax_now (k := k) R (by omega) hl
  intro n
  induction n with
  | zero => intro i _ h; omega
  | succ n ih =>
    intro i hi hn
    rw [f_L_isLorry_b23, o_c1 R.c, zb1_some]
    by_cases h : i < B
    · rw [if_neg (fun q => absurd ((n_le (by omega) (by omega)).mp q) (by omega)), o_lo3 R.c (by omega) hl, zb1_some, zl_e, zl_e, b_test (by omega), b_zbs B (by omega) i (by omega)]
      have nx := ih (i + 1) (by omega) (by omega)
      rw [nsum] at nx
      have zz : zbs (fun b => zon (fun b => f (8 + b * 11 + 9)) l b && decide (f (8 + b * 11 + 7) = 1)) (i + 1) = 0 ↔ zbs (fun b => zon (fun b => f (8 + b * 11 + 9)) l b && decide (f (8 + b * 11 + 7) = 1)) i = 0 ∧ (zon (fun b => f (8 + b * 11 + 9)) l i && decide (f (8 + i * 11 + 7) = 1)) = false := by
        rw [b_empty (by omega), b_empty (by omega)]
        constructor
        · exact fun r => ⟨fun j hj => r j (by omega), r i (by omega)⟩
        · rintro ⟨r1, r2⟩ j hj
          by_cases e : j = i
          · subst e; exact r2
          · exact r1 j (by omega)
      have b102 : ∀ x4, f_L_isLorry_b102 k f hz pl (Int32.ofNat l) (f_L_isLorry_b23 k f hz pl (Int32.ofNat l) n) (Int32.ofNat (axn (qw f B l) (fun p => 4 - p))) (Int32.ofNat (axn (qw f B l) (fun p => p))) x4 (Int32.ofNat i) = f_L_isLorry_b23 k f hz pl (Int32.ofNat l) n (Int32.ofNat (axn (qw f B l) (fun p => 4 - p))) (Int32.ofNat (axn (qw f B l) (fun p => p))) x4 0 (Int32.ofNat (i + 1)) := fun x4 => by
        rw [f_L_isLorry_b102, f_L_isLorry_b103, zl_e, n_suc]
      have b98 : ∀ x4, f_L_isLorry_b98 k f hz pl (Int32.ofNat l) (f_L_isLorry_b23 k f hz pl (Int32.ofNat l) n) (Int32.ofNat (axn (qw f B l) (fun p => 4 - p))) (Int32.ofNat (axn (qw f B l) (fun p => p))) x4 (Int32.ofNat i) = f_L_isLorry_b23 k f hz pl (Int32.ofNat l) n (Int32.ofNat (axn (qw f B l) (fun p => 4 - p))) (Int32.ofNat (axn (qw f B l) (fun p => p))) x4 1 (Int32.ofNat (i + 1)) := fun x4 => by
        rw [f_L_isLorry_b98, f_L_isLorry_b103, zl_e, n_suc]
      by_cases q : zon (fun b => f (8 + b * 11 + 9)) l i = true
      · rw [if_pos (by rw [if_pos (by rw [q]; simp [h])]), f_L_isLorry_b53, if_neg n10, o_of4 R.c h, zb1_some, (R.blk i h).wt.1, f_L_isLorry_b73, zl_e, n_add, b98, b102]
        rw [if_pos q] at nx
        by_cases z : zbs (fun b => zon (fun b => f (8 + b * 11 + 9)) l b && decide (f (8 + b * 11 + 7) = 1)) i = 0
        · rw [if_pos z, if_pos rfl, if_neg n10, o_of7 R.c h, zb1_some]
          by_cases w : f (8 + i * 11 + 7) = 1
          · rw [if_pos w]
            rw [if_neg (fun r => by have := (zz.mp r).2; rw [q, w] at this; simp at this)] at nx
            exact nx
          · rw [if_neg w]
            rw [if_pos (zz.mpr ⟨z, by simp [w]⟩)] at nx
            exact nx
        · rw [if_neg z, if_neg n10]
          rw [if_neg (fun r => z (zz.mp r).1)] at nx
          exact nx
      · rw [if_neg (by rw [if_neg (by simp [q])]; decide), f_L_isLorry_b53, if_pos rfl, f_L_isLorry_b73, zl_e, Int32.add_zero, b98, b102]
        rw [if_neg q] at nx
        by_cases z : zbs (fun b => zon (fun b => f (8 + b * 11 + 9)) l b && decide (f (8 + b * 11 + 7) = 1)) i = 0
        · rw [if_pos z, if_pos rfl, if_pos rfl]
          rw [if_pos (zz.mpr ⟨z, by simp [q]⟩)] at nx
          exact nx
        · rw [if_neg z, if_neg n10]
          rw [if_neg (fun r => z (zz.mp r).1)] at nx
          exact nx
    · have : i = B := by omega
      subst this
      rw [if_pos ((n_le (by omega) (by omega)).mpr (Nat.le_refl _)), o_lo3 R.c (by omega) hl, zb1_some, o_lo4 hl, o_lo5 hl, o_lo6 hl, ax_load hl]
      simp only [zb1_some, zl_e]
      have en : ∀ due, due = zwhy f i l → f_L_isLorry_b182 k f hz pl (Int32.ofNat l) (Int32.ofNat (axn (qw f i l) (fun p => 4 - p))) (Int32.ofNat (axn (qw f i l) (fun p => p))) (Int32.ofNat (axn (qw f i l) (fun _ => 1))) due = some 1 := fun due hd => l_lor_end R hk hl hd
      unfold zwhy at en
      by_cases q1 : zbs (zon (fun b => f (8 + b * 11 + 9)) l) i = 0
      · rw [if_pos q1]
        exact en 1 (by rw [if_pos q1])
      · rw [if_neg q1] at en ⊢
        by_cases q2 : zbs (fun b => zon (fun b => f (8 + b * 11 + 9)) l b && decide (f (8 + b * 11 + 7) = 1)) i = 0
        · rw [if_pos q2, if_pos rfl]
          rw [if_neg (not_not_intro q2)] at en
          by_cases q3 : Int32.ofNat (axn (qw f i l) (fun _ => 1)) ≤ f (332 + l * 4 + 2)
          · rw [if_pos q3]
            rw [if_neg (not_not_intro q3)] at en
            by_cases q4 : Int32.ofNat (axn (qw f i l) (fun p => 4 - p)) ≤ 4 * f (332 + l * 4 + 0)
            · rw [if_pos q4]
              rw [if_neg (not_not_intro q4)] at en
              by_cases q5 : Int32.ofNat (axn (qw f i l) (fun p => p)) ≤ 4 * f (332 + l * 4 + 1)
              · rw [if_pos q5]
                exact en 0 (by rw [if_neg (not_not_intro q5)])
              · rw [if_neg q5]
                exact en 5 (by rw [if_pos q5])
            · rw [if_neg q4]
              exact en 4 (by rw [if_pos q4])
          · rw [if_neg q3]
            exact en 3 (by rw [if_pos q3])
        · rw [if_neg q2, if_neg n10]
          exact en 2 (by rw [if_pos q2])
theorem l_lor {k l t B O σ : Nat} {f : Nat → Int32} {hz pl : Int32} (R : InvS f t B O σ) (hk : 100 ≤ k) (hl : l < 3) : f_L_isLorry k f hz pl (Int32.ofNat l) = some 1 := by
  have hB := R.c.hB
  have e0 : jl 0 = fun p => 4 - p := by funext p; exact if_pos rfl
  have e1 : jl 1 = fun p => p := by funext p; exact if_neg n10
  have := l_lor_loop (k := k) (hz := hz) (pl := pl) R hk hl k 0 (by omega) (by omega)
  rw [f_L_isLorry, l_axle R (by omega) hl, zb1_some, l_axle R (by omega) hl, zb1_some, e0, e1]
  exact this
