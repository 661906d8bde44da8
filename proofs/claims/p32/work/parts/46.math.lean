/-! THE SHARE, THE BEST PLACE -/
theorem g_nat {N : Nat} (h : N < 2147483648) : (Int32.ofNat N).toInt64 = Int64.ofNat N := by
  apply Int64.toInt_inj.mp
  rw [Int32.toInt_toInt64, i_nat h, Int64.toInt_ofNat_of_lt (by omega)]
theorem g_cmp {a b : Nat} (ha : a < 9223372036854775808) (hb : b < 9223372036854775808) : lg_cmp (Int64.ofNat a) (Int64.ofNat b) = if b < a then 1 else if a = b then 0 else -1 := by
  have e1 : Int64.ofNat a > Int64.ofNat b ↔ b < a := by
    rw [gt_iff_lt, Int64.lt_iff_toInt_lt, Int64.toInt_ofNat_of_lt ha, Int64.toInt_ofNat_of_lt hb]
    omega
  have e2 : Int64.ofNat a = Int64.ofNat b ↔ a = b := by
    rw [← Int64.toInt_inj, Int64.toInt_ofNat_of_lt ha, Int64.toInt_ofNat_of_lt hb]
    omega
  unfold lg_cmp
  simp only [e1, e2]
/-- states that are alike in all cells -/
def Al (f f' : Nat → Int32) : Prop := ∀ i, i < 344 → f' i = f i
theorem Al.qm {f f' : Nat → Int32} (a : Al f f') {B l b p : Nat} (hB : B ≤ 24) (hb : b < B) : qwm f' B l b p = qwm f B l b p := by
  funext q
  have zz : ∀ c, c < B → zw f' c = zw f c := fun c hc => by unfold zw; rw [a _ (by omega)]
  unfold qwm
  by_cases h : q < 5
  · rw [if_pos h, if_pos h, zz b hb]
    unfold pwt
    rw [nsum_congr (w := zw f') (v := zw f) (P := zat (fun b => f' (8 + b * 11 + 9)) (5 * l + q)) (Q := zat (fun b => f (8 + b * 11 + 9)) (5 * l + q)) (fun c hc => by
      show decide (f' (8 + c * 11 + 9) = _) = decide (f (8 + c * 11 + 9) = _)
      rw [a _ (by omega)]) (fun c hc _ => zz c hc)]
  · rw [if_neg h, if_neg h]
theorem Al.fr {f f' : Nat → Int32} (a : Al f f') {B x : Nat} (hB : B ≤ 24) : zbs (zat (fun b => f' (8 + b * 11 + 9)) x) B = zbs (zat (fun b => f (8 + b * 11 + 9)) x) B := zbs_congr (fun c hc => by
  show decide (f' (8 + c * 11 + 9) = _) = decide (f (8 + c * 11 + 9) = _)
  rw [a _ (by omega)])
/-- a lorry's two shares with a block at a place, the greater of them in millionths -/
def gm (f : Nat → Int32) (B l b q m0 m1 : Nat) : Nat := max (mil (axn (qwm f B l b q) (fun p => 4 - p)) m0) (mil (axn (qwm f B l b q) (fun p => p)) m1)
theorem mil_lt {N m : Nat} (hN : N < 16777216) : mil N m < 9000000000000 := by
  unfold mil
  have := Nat.div_le_self (250000 * N) m
  omega
theorem l_share_yes {k n h t B O b l q m0 m1 : Nat} {f : Nat → Int32} {g : Nat → Nat → Int32} {pl : Int32} (R : Inv f t B O) (hk : 100 ≤ k) (hn : n < 7) (hh : h ≤ 6) (b1 : b < B) (l1 : l < 3) (q1 : q < 5) (h5 : f (8 + b * 11 + 5) = 0 ∨ f (8 + b * 11 + 5) = 1) (hz : zbs (zat (fun b => f (8 + b * 11 + 9)) (5 * l + q)) B = 0)
    (a0 : 100 ≤ m0) (c0 : f (332 + l * 4 + 0) = Int32.ofNat m0) (d0 : m0 ≤ 30000) (a1 : 100 ≤ m1) (c1 : f (332 + l * 4 + 1) = Int32.ofNat m1) (d1 : m1 ≤ 30000) :
    ∃ f2 g2 h2, f_L_share k f g (Int32.ofNat n) (Int32.ofNat h) pl (Int32.ofNat b) (Int32.ofNat l) (Int32.ofNat q) = some (Int64.ofNat (gm f B l b q m0 m1), f2, g2, Int32.ofNat n, Int32.ofNat h2) ∧ h2 ≤ 6 ∧ Al f f2 := by
  have hB := R.c.hB
  obtain ⟨r, F, e, r0, hF, R'⟩ := ld_ok (k := k) R (by omega) b1 l1 q1 h5 hz
  have e0 : f_X7_load k f g (Int32.ofNat n) (Int32.ofNat h) (Int32.ofNat b) (Int32.ofNat l) (Int32.ofNat q) = _ := cg_yes (k := k) (g := g) hn hh e r0
  obtain ⟨f2, h2, u1, u2, u3⟩ := un_ok (k := k) (f := f) (f' := F) (g := g) hn hh
  have s6 := R.spot6 b1 h5
  have L0 : F (332 + l * 4 + 0) = Int32.ofNat m0 := by rw [hF, upd_ne (by omega), upd_ne (by omega)]; exact c0
  have L1 : F (332 + l * 4 + 1) = Int32.ofNat m1 := by rw [hF, upd_ne (by omega), upd_ne (by omega)]; exact c1
  obtain ⟨-, -, x3, x4⟩ := ax_more (k := k) (p := q) (b := b) R (by omega) l1 q1 b1
  have j0 : jl 0 = fun p => 4 - p := by funext p; exact if_pos rfl
  have j1 : jl 1 = fun p => p := by funext p; exact if_neg n10
  refine ⟨f2, ring f g n, h2, ?_, u2, u3⟩
  rw [f_L_share, e0, zb5_some, if_pos (show (0 : Int32) ≤ r from by rw [i_le]; rw [i_lt] at r0; omega), l_axle R' (by omega) l1, l_axle R' (by omega) l1, o_lo4 l1, o_lo5 l1, u1]
  simp only [zb1_some, zl_e]
  rw [j0, j1, ax_put (j := fun p => 4 - p) R l1 q1 b1 s6 hF, ax_put (j := fun p => p) R l1 q1 b1 s6 hF, L0, L1]
  unfold gm
  generalize axn (qwm f B l b q) (fun p => 4 - p) = N0 at *
  generalize axn (qwm f B l b q) (fun p => p) = N1 at *
  have l0 := mil_lt (m := m0) x3
  have l1' := mil_lt (m := m1) x4
  have nz : ∀ m, 100 ≤ m → m ≤ 30000 → znzl (Int64.ofNat m) = true := fun m h1 h2 => decide_eq_true (fun q => by
    have := congrArg Int64.toInt q
    rw [Int64.toInt_ofNat_of_lt (by omega)] at this
    rw [show (0 : Int64).toInt = 0 by decide] at this
    omega)
  have dv : ∀ N m, N < 16777216 → m ≤ 30000 → (250000 : Int64) * Int64.ofNat N / Int64.ofNat m = Int64.ofNat (mil N m) := fun N m hN hm => by
    rw [show (250000 : Int64) = Int64.ofNat 250000 from rfl, ← Int64.ofNat_mul, ← Int64.ofNat_div (by omega) (by omega)]
    rfl
  rw [g_nat (show N0 < 2147483648 by omega), g_nat (show N1 < 2147483648 by omega), g_nat (show m0 < 2147483648 by omega), g_nat (show m1 < 2147483648 by omega), nz m0 a0 d0, nz m1 a1 d1, zg_true, zg_true, dv N0 m0 x3 d0, dv N1 m1 x4 d1, zb4_some, g_cmp (by omega) (by omega)]
  generalize mil N0 m0 = A at *
  generalize mil N1 m1 = C at *
  by_cases c : C < A
  · rw [if_pos c, if_neg (by decide), show max A C = A by omega]
  · rw [if_neg c]
    have : (if A = C then (0 : Int32) else -1) ≤ 0 := by split <;> decide
    rw [if_pos this, show max A C = C by omega]
theorem l_share_no {k n h : Nat} {f : Nat → Int32} {g : Nat → Nat → Int32} {pl p1 p2 p3 r : Int32} (hn : n < 7) (hr : r < 0) (e : f_X6_loadBlock k f p1 p2 p3 = some (r, f)) : f_L_share k f g (Int32.ofNat n) (Int32.ofNat h) pl p1 p2 p3 = some (-1, f, ring f g n, Int32.ofNat n, Int32.ofNat h) := by
  have e0 : f_X7_load k f g (Int32.ofNat n) (Int32.ofNat h) p1 p2 p3 = _ := cg_no (k := k) (g := g) (h := h) hn e hr
  rw [f_L_share, e0, zb5_some, if_neg (show ¬ (0 : Int32) ≤ r from fun q => by rw [i_le] at q; rw [i_lt] at hr; omega)]
theorem s_gsh {k t B O b l q m0 m1 : Nat} {f : Nat → Int32} (R : Inv f t B O) (hk : 25 ≤ k) (b1 : b < B) (l1 : l < 3) (q1 : q < 5) (a0 : 100 ≤ m0) (c0 : f (332 + l * 4 + 0) = Int32.ofNat m0) (d0 : m0 ≤ 30000) (a1 : 100 ≤ m1) (c1 : f (332 + l * 4 + 1) = Int32.ofNat m1) (d1 : m1 ≤ 30000) :
    Nn (gsh (shr (axn (qwm f B l b q) (fun p => 4 - p)) (Int32.ofNat m0)) (shr (axn (qwm f B l b q) (fun p => p)) (Int32.ofNat m1))) ∧ f_X1_greaterShare k f (Int32.ofNat l) (Int32.ofNat q) (f (8 + b * 11 + 4)) = some (gsh (shr (axn (qwm f B l b q) (fun p => 4 - p)) (Int32.ofNat m0)) (shr (axn (qwm f B l b q) (fun p => p)) (Int32.ofNat m1))) := by
  obtain ⟨h3, h5, h1, h2⟩ := ax_more (k := k) (p := q) (b := b) R hk l1 q1 b1
  have nf := shr_n (N := axn (qwm f B l b q) (fun p => 4 - p)) (m := m0) h1 (by omega) (by omega)
  have nr := shr_n (N := axn (qwm f B l b q) (fun p => p)) (m := m1) h2 (by omega) (by omega)
  refine ⟨gsh_n nf nr, ?_⟩
  rw [f_X1_greaterShare, h3, s_lor0 l1, h5, s_lor1 l1, c0, c1]
  simp only [zb1_some]
  rw [s_share (by omega) (by omega) h1, s_share (by omega) (by omega) h2]
  simp only [zb1_some, zl_e]
  unfold gsh
  by_cases q : (shr (axn (qwm f B l b q) (fun p => 4 - p)) (Int32.ofNat m0)).toNat < (shr (axn (qwm f B l b q) (fun p => p)) (Int32.ofNat m1)).toNat
  · rw [if_pos q, if_pos ((cmp_lt .l nf nr).mpr q)]
  · rw [if_neg q, if_neg (fun r => q ((cmp_lt .l nf nr).mp r))]
/-- the best place -/
theorem o_place {k t B O : Nat} {f : Nat → Int32} (R : Inv f t B O) (hk : 25 ≤ k) (p1 p2 : Int32) : ∃ r, f_X7_bestPlace k f p1 p2 = some r ∧ (r < 0 ∨ ∃ b l p m0 m1, b < B ∧ l < 3 ∧ p < 5 ∧ p1 = Int32.ofNat b ∧ p2 = Int32.ofNat l ∧ r = Int32.ofNat p ∧ (f (8 + b * 11 + 5) = 0 ∨ f (8 + b * 11 + 5) = 1) ∧ zbs (zat (fun b => f (8 + b * 11 + 9)) (5 * l + p)) B = 0 ∧
    (100 ≤ m0 ∧ f (332 + l * 4 + 0) = Int32.ofNat m0 ∧ m0 ≤ 30000) ∧ (100 ≤ m1 ∧ f (332 + l * 4 + 1) = Int32.ofNat m1 ∧ m1 ≤ 30000) ∧ ∀ q, q < 5 → zbs (zat (fun b => f (8 + b * 11 + 9)) (5 * l + q)) B = 0 → gm f B l b p m0 m1 ≤ gm f B l b q m0 m1 + gm f B l b q m0 m1 / 1000000 + 2) := by
  have hB := R.c.hB
  rw [f_X7_bestPlace]
  rcases h_blk R.c k p1 with ⟨b, b1, rfl, e1⟩ | ⟨-, e1⟩
  · rcases h_lor k p2 with ⟨l, l1, rfl, e3⟩ | ⟨-, e3⟩
    · rw [e1, e3, zb1_some, if_neg n10, zb1_some, if_neg n10, s_hand (by omega), zb1_some]
      simp only [flag]
      by_cases qh : f (8 + b * 11 + 5) = 0 ∨ f (8 + b * 11 + 5) = 1
      · rw [if_neg (fun r => r qh)]
        obtain ⟨m0, a0, d0, c0⟩ := R.lm l l1 0 (by omega)
        obtain ⟨m1, a1, d1, c1⟩ := R.lm l l1 1 (by omega)
        have G := fun q q1 => s_gsh (k := k) (q := q) R hk b1 l1 q1 a0 c0 d0 a1 c1 d1
        obtain ⟨r, r1, r2⟩ := s_easy_loop (k := k) (l := l) (b := b) (G := fun q => gsh (shr (axn (qwm f B l b q) (fun p => 4 - p)) (Int32.ofNat m0)) (shr (axn (qwm f B l b q) (fun p => p)) (Int32.ofNat m1))) R.c hk (fun p hp _ => G p hp) k 0 (-6) FP.fconst0 (by omega) (by omega) (.inl ⟨rfl, fun p hp => by omega⟩)
        have er : f_X1_easiestPlace k f (Int32.ofNat b) (Int32.ofNat l) = some r := by
          rw [f_X1_easiestPlace, s_blk4 (by omega), zb1_some]
          exact r1
        rw [er, zb1_some]
        refine ⟨r, rfl, ?_⟩
        rcases r2 with ⟨z, -⟩ | ⟨p, -, p1, z, hf, hl⟩
        · exact .inl (by rw [z]; decide)
        · refine .inr ⟨b, l, p, m0, m1, b1, l1, p1, rfl, rfl, z, qh, hf, ⟨a0, c0, d0⟩, ⟨a1, c1, d1⟩, fun q q1 qf => ?_⟩
          have key := (hl q (Nat.zero_le _) q1 qf).1
          obtain ⟨-, -, y1, y2⟩ := ax_more (k := k) (p := p) (b := b) R hk l1 p1 b1
          obtain ⟨-, -, y3, y4⟩ := ax_more (k := k) (p := q) (b := b) R hk l1 q1 b1
          exact share_le y1 y2 y3 y4 a0 d0 a1 d1 (Int.ofNat_le.mp key)
      · rw [if_pos qh]
        exact ⟨-5, rfl, .inl (by decide)⟩
    · rw [e1, e3]
      exact ⟨-1, rfl, .inl (by decide)⟩
  · rw [e1]
    exact ⟨-1, rfl, .inl (by decide)⟩
/-! the fitting cut -/
theorem o_fit {k t B O : Nat} {f : Nat → Int32} (R : Inv f t B O) (hk : 400 ≤ k) (p1 p2 : Int32) : ∃ r0 r1, f_X7_fittingCut k f p1 p2 0 = some r0 ∧ f_X7_fittingCut k f p1 p2 1 = some r1 ∧ (r0 < 0 ∨ ∃ o b a len, o < O ∧ b < B ∧ a < 3 ∧ 1 ≤ len ∧ len ≤ 300 ∧ p1 = Int32.ofNat o ∧ p2 = Int32.ofNat b ∧ r0 = Int32.ofNat a ∧ r1 = Int32.ofNat len ∧ (f 4 = 0 ∧ (f (8 + b * 11 + 5) = 0 ∨ f (8 + b * 11 + 5) = 1) ∧ f (8 + b * 11 + 8) = -6) ∧ zfit f o b a len) := by
  have hB := R.c.hB
  have hO := R.c.hO
  rw [f_X7_fittingCut, f_X7_fittingCut]
  rcases h_ord R.c k p1 with ⟨o, o1, rfl, e1⟩ | ⟨-, e1⟩
  · rcases h_blk R.c k p2 with ⟨b, b1, rfl, e3⟩ | ⟨-, e3⟩
    · rw [e1, e3]
      simp only [zb1_some, f_X7_fittingCut_b36, show ((1 : Int32) = 0) = False from eq_false n10, if_false, if_true]
      rw [s_sawn (by omega)]
      simp only [zb1_some, flag]
      by_cases q : f 4 = 0 ∧ (f (8 + b * 11 + 5) = 0 ∨ f (8 + b * 11 + 5) = 1) ∧ f (8 + b * 11 + 8) = -6
      · rw [if_neg (not_not_intro q), if_neg (not_not_intro q)]
        obtain ⟨⟨s0, s1⟩, -⟩ := R.g
        have hw : zsaw f b := ⟨s0, s1, fun a ha => by
          obtain ⟨n, n1, n2, n3⟩ := (R.blk b b1).1 a ha
          rw [n3, i_nat (by omega)]
          omega⟩
        obtain ⟨r0, x0, y0⟩ := fc_loop (k := k) (w := 0) hk (show o < 10 by omega) (show b < 24 by omega) hw k 0 (by omega) (by omega) (fun j hj => by omega)
        obtain ⟨r1, x1, y1⟩ := fc_loop (k := k) (w := 1) hk (show o < 10 by omega) (show b < 24 by omega) hw k 0 (by omega) (by omega) (fun j hj => by omega)
        refine ⟨r0, r1, x0, x1, ?_⟩
        rcases y0 with ⟨z, -⟩ | ⟨j, j1, j2, j3, j4⟩
        · exact .inl (by rw [z]; decide)
        · rcases y1 with ⟨z, n⟩ | ⟨j', j1', j2', j3', j4'⟩
          · exact absurd j2 (n j j1)
          · have : j = j' := by
              rcases Nat.lt_trichotomy j j' with w | w | w
              · exact absurd j2 (j3' j w)
              · exact w
              · exact absurd j2' (j3 j' w)
            subst this
            rw [if_pos rfl] at j4
            rw [if_neg n10] at j4'
            exact .inr ⟨o, b, j / 300, 1 + j % 300, o1, b1, by omega, by omega, by omega, rfl, rfl, j4, j4', q, j2⟩
      · rw [if_pos q, if_pos q]
        exact ⟨-5, -5, rfl, rfl, .inl (by decide)⟩
    · rw [e1, e3]
      exact ⟨-1, -1, rfl, rfl, .inl (by decide)⟩
  · rw [e1]
    exact ⟨-1, -1, rfl, rfl, .inl (by decide)⟩
