/-! WHAT WOULD BE IS TRIED -/
theorem InvS.al {f f' : Nat → Int32} {t B O σ : Nat} (R : InvS f t B O σ) (a : Al f f') : InvS f' t B O σ := R.congr (Nat.le_refl _) a
theorem Al.trans {f f' f'' : Nat → Int32} (a : Al f f') (b : Al f' f'') : Al f f'' := fun i hi => (b i hi).trans (a i hi)
/-- the end of tries: it holds, and the state is as it was -/
def Te (f : Nat → Int32) (x : Option (Int32 × (Nat → Int32) × (Nat → Nat → Int32) × Int32 × Int32)) : Prop := ∃ f' g' n' h', x = some (1, f', g', Int32.ofNat n', Int32.ofNat h') ∧ n' < 7 ∧ h' ≤ 6 ∧ Al f f'
theorem t_370 {k n h t B O : Nat} {f f' : Nat → Int32} {g : Nat → Nat → Int32} {pl p2 : Int32} (R : Inv f t B O) (hn : n < 7) (hh : h ≤ 6) (a : Al f f') : Te f (f_L_tries_b370 k pl p2 f' g (Int32.ofNat n) (Int32.ofNat h) 1 (Int32.ofNat B)) := by
  rw [f_L_tries_b370, if_neg n10, o_c1 (R.al a).c, zb1_some, if_pos rfl]
  exact ⟨f', g, n, h, rfl, hn, hh, a⟩
theorem t_308 {k n t B O b l p m0 m1 : Nat} {f : Nat → Int32} {pl p2 : Int32} (R : Inv f t B O) (hk : 100 ≤ k) (hn : n < 7) (b1 : b < B) (l1 : l < 3) (h5 : f (8 + b * 11 + 5) = 0 ∨ f (8 + b * 11 + 5) = 1)
    (M0 : 100 ≤ m0 ∧ f (332 + l * 4 + 0) = Int32.ofNat m0 ∧ m0 ≤ 30000) (M1 : 100 ≤ m1 ∧ f (332 + l * 4 + 1) = Int32.ofNat m1 ∧ m1 ≤ 30000) (hp : p < 5)
    (hb : ∀ q, q < 5 → zbs (zat (fun b => f (8 + b * 11 + 9)) (5 * l + q)) B = 0 → gm f B l b p m0 m1 ≤ gm f B l b q m0 m1 + gm f B l b q m0 m1 / 1000000 + 2) :
    ∀ m i f' g' h', Al f f' → h' ≤ 6 → i ≤ 5 → 5 - i < m → Te f (f_L_tries_b308 k pl p2 m f' g' (Int32.ofNat n) (Int32.ofNat h') 1 (Int32.ofNat B) (Int32.ofNat b) (Int32.ofNat l) (Int64.ofNat (gm f B l b p m0 m1)) (Int32.ofNat i)) := by
  have hB := R.c.hB
  have gl : ∀ q, q < 5 → gm f B l b q m0 m1 < 9000000000000 := fun q hq => by
    obtain ⟨-, -, x3, x4⟩ := ax_more (k := k) (p := q) (b := b) R (by omega) l1 hq b1
    have y0 := mil_lt (m := m0) x3
    have y1 := mil_lt (m := m1) x4
    unfold gm
    omega
  intro m
  induction m with
  | zero => intro i _ _ _ _ _ _ h; omega
  | succ m ih =>
    intro i f' g' h' a hh hi hm
    have R' := R.al a
    rw [f_L_tries_b308]
    by_cases h : i < 5
    · rw [if_neg (n_ge5 h), if_neg n10]
      have nx : ∀ f'' g'' h'' y, Al f f'' → h'' ≤ 6 → y = (1 : Int32) → Te f (f_L_tries_b362 k pl p2 (f_L_tries_b308 k pl p2 m) f'' g'' (Int32.ofNat n) (Int32.ofNat h'') (Int32.ofNat B) (Int32.ofNat b) (Int32.ofNat l) (Int64.ofNat (gm f B l b p m0 m1)) (Int32.ofNat i) y) := fun f'' g'' h'' y a'' hh'' hy => by
        subst hy
        rw [f_L_tries_b362, zl_e, n_suc]
        exact ih (i + 1) f'' g'' h'' a'' hh'' (by omega) (by omega)
      have h5' : f' (8 + b * 11 + 5) = 0 ∨ f' (8 + b * 11 + 5) = 1 := by rw [a _ (by omega)]; exact h5
      by_cases hz : zbs (zat (fun b => f' (8 + b * 11 + 9)) (5 * l + i)) B = 0
      · obtain ⟨f2, g2, h2, e, e1, e2⟩ := l_share_yes (k := k) (g := g') (pl := pl) R' hk hn hh b1 l1 h h5' hz M0.1 (by rw [a _ (by omega)]; exact M0.2.1) M0.2.2 M1.1 (by rw [a _ (by omega)]; exact M1.2.1) M1.2.2
        have eg : gm f' B l b i m0 m1 = gm f B l b i m0 m1 := by unfold gm; rw [a.qm hB b1]
        rw [a.fr hB] at hz
        have key := hb i h hz
        have g1 := gl i h
        have g2' := gl p hp
        rw [e, zb5_some, eg, zl_e]
        generalize gm f B l b i m0 m1 = V at *
        generalize gm f B l b p m0 m1 = W at *
        have c0 : ¬ lg_cmp (Int64.ofNat V) 0 < 0 := by
          rw [show (0 : Int64) = Int64.ofNat 0 from rfl, g_cmp (by omega) (by omega)]
          by_cases q : 0 < V
          · rw [if_pos q]; decide
          · rw [if_neg q, if_pos (by omega)]; decide
        have d1 : Int64.ofNat V / 1000000 = Int64.ofNat (V / 1000000) := by
          rw [show (1000000 : Int64) = Int64.ofNat 1000000 from rfl, ← Int64.ofNat_div (by omega) (by omega)]
        have d2 : Int64.ofNat V + Int64.ofNat (V / 1000000) + 2 = Int64.ofNat (V + V / 1000000 + 2) := by
          rw [show (2 : Int64) = Int64.ofNat 2 from rfl, ← Int64.ofNat_add, ← Int64.ofNat_add]
        have c1 : ¬ lg_cmp (Int64.ofNat (V + V / 1000000 + 2)) (Int64.ofNat W) < 0 := by
          rw [g_cmp (by omega) (by omega)]
          by_cases q : W < V + V / 1000000 + 2
          · rw [if_pos q]; decide
          · rw [if_neg q, if_pos (by omega)]; decide
        rw [if_neg c0, show znzl (1000000 : Int64) = true from by decide, zg_true]
        simp only [zl_e]
        rw [d1, d2, if_neg c1, f_L_tries_b357]
        exact nx f2 g2 h2 1 (a.trans e2) e1 rfl
      · rcases ld_no (k := k) R' (by omega) (Int32.ofNat b) (Int32.ofNat l) (Int32.ofNat i) with ⟨r, r0, e⟩ | ⟨b', l', p', q1, q2, q3, q4, q5, q6, q7, q8⟩
        · rw [l_share_no (g := g') (h := h') (pl := pl) hn r0 e, zb5_some, zl_e, if_pos (by decide), f_L_tries_b357]
          exact nx f' _ h' 1 a hh rfl
        · exfalso
          have z1 := (n_inj (by omega) (by omega)).mp q5
          have z2 := (n_inj (by omega) (by omega)).mp q6
          subst z1
          subst z2
          exact hz q8
    · have : i = 5 := by omega
      subst this
      rw [if_pos (by decide)]
      exact t_370 R hn hh a
theorem t_263 {k n h t B O : Nat} {f f' : Nat → Int32} {g : Nat → Nat → Int32} {pl p2 x7 : Int32} (R : Inv f t B O) (hk : 100 ≤ k) (hn : n < 7) (hh : h ≤ 6) (a : Al f f') : Te f (f_L_tries_b263 k pl p2 f' g (Int32.ofNat n) (Int32.ofNat h) 1 (Int32.ofNat B) x7) := by
  have R' := R.al a
  obtain ⟨v, ev⟩ := low_ok (k := k) (p1 := p2 >>> (9 &&& 31)) (p2 := 3) (by decide)
  obtain ⟨r, er, hr⟩ := o_place (k := k) R' (by omega) x7 v
  rw [f_L_tries_b263, zl_e, ev, zb1_some, er, zb1_some, if_neg n10]
  rcases hr with q | ⟨b, l, p, m0, m1, b1, l1, p1, rfl, rfl, rfl, h5, hf, M0, M1, hb⟩
  · rw [if_pos q]
    exact t_370 R hn hh a
  · obtain ⟨f2, g2, h2, e, e1, e2⟩ := l_share_yes (k := k) (g := g) (pl := pl) R' hk hn hh b1 l1 p1 h5 hf M0.1 M0.2.1 M0.2.2 M1.1 M1.2.1 M1.2.2
    rw [if_neg (n_lt0 (by omega)), e, zb5_some]
    obtain ⟨f3, g3, n3, h3, z1, z2, z3, z4⟩ := t_308 (k := k) (pl := pl) (p2 := p2) R' hk hn b1 l1 h5 M0 M1 p1 hb k 0 f2 g2 h2 e2 e1 (by omega) (by omega)
    exact ⟨f3, g3, n3, h3, z1, z2, z3, a.trans z4⟩
theorem cut_can {f : Nat → Int32} {t B O σ b a len : Nat} (R : InvS f t B O σ) (hb : b < B) (ha : a < 3) (hl : len ≤ 300) (h : (len : Int) ≤ (f (8 + b * 11 + a)).toInt - (f 0).toInt - 1) : (1 : Int32) ≤ f (8 + b * 11 + a) - Int32.ofNat len - f 0 := by
  have t1 : (1 : Int32).toInt = 1 := by decide
  obtain ⟨⟨s0, s1⟩, -⟩ := R.g
  obtain ⟨n, n1, n2, n3'⟩ := (R.blk b hb).1 a ha
  rw [n3', i_nat (by omega)] at h
  have e1 : (f (8 + b * 11 + a) - Int32.ofNat len).toInt = (n : Int) - len := by
    rw [n3', i_sub (by rw [i_nat (by omega), i_nat (by omega)]; omega) (by rw [i_nat (by omega), i_nat (by omega)]; omega), i_nat (by omega), i_nat (by omega)]
  rw [i_le, t1, i_sub (by rw [e1]; omega) (by rw [e1]; omega), e1]
  omega
theorem t_65 {k n h t B O : Nat} {f f' : Nat → Int32} {g : Nat → Nat → Int32} {pl p2 : Int32} (R0 : Inv f t B O) (hk : 400 ≤ k) (hn : n < 7) (hh : h ≤ 6) (a0 : Al f f') : Te f (f_L_tries_b65 k pl p2 f' g (Int32.ofNat n) (Int32.ofNat h) 1) := by
  have R := R0.al a0
  have hB := R.c.hB
  have hO := R.c.hO
  have nB : ¬ Int32.ofNat (B + 1) = 0 := fun q => absurd ((n_inj (b := 0) (by omega) (by omega)).mp q) (by omega)
  have nO : ¬ Int32.ofNat (O + 1) = 0 := fun q => absurd ((n_inj (b := 0) (by omega) (by omega)).mp q) (by omega)
  obtain ⟨v12, e12⟩ := low_ok (k := k) (p1 := p2) nO
  obtain ⟨v15, e15⟩ := low_ok (k := k) (p1 := p2 >>> (4 &&& 31)) nB
  obtain ⟨r0, r1, x0, x1, hr⟩ := o_fit (k := k) R hk v12 v15
  rw [f_L_tries_b65, o_c1 R.c, zb1_some, o_c2 R.c, zb1_some, zl_e, n_suc, e12, zb1_some, zl_e, zl_e, n_suc, e15, zb1_some, x0, zb1_some, x1, zb1_some, if_neg n10]
  rcases hr with q | ⟨o, b, a, len, o1, b1, ha, l1, l2, rfl, rfl, rfl, rfl, q, z1, z2, z3⟩
  · rw [if_pos q]
    exact t_263 R0 (by omega) hn hh a0
  · rw [if_neg (n_lt0 (by omega))]
    by_cases q22 : (22 : Int32) < Int32.ofNat B
    · rw [if_pos q22]
      exact t_263 R0 (by omega) hn hh a0
    · have hB2 : B + 2 ≤ 24 := by
        have : ¬ 22 < B := fun w => q22 ((n_lt (a := 22) (b := B) (by omega) (by omega)).mpr w)
        omega
      rw [if_neg q22]
      have c1 := cut_can R b1 ha l2 z2
      obtain ⟨r, y1, y2, y3⟩ := cut_rest R b1 ha ⟨l1, l2⟩ c1
      obtain ⟨F1, F2, d1, d2, R2, fr, G0, G1, G2, G5, G7, G8, G10, Gr⟩ := cut_ok (k := k) R (by omega) b1 ha hB2 ⟨l1, l2⟩ y2 y3 q.2.1 q.2.2 (if f' (8 + b * 11 + 5) = 1 then 1 else 0)
      have ex : f_X6_cutBlock k f' (Int32.ofNat b) (Int32.ofNat a) (Int32.ofNat len) = some (Int32.ofNat B, F2) := by
        rw [cut_x R b1 ha ⟨l1, l2⟩, if_neg (not_not_intro q), if_pos c1, if_pos (show Int32.ofNat (B + 2) ≤ 24 from (n_le (b := 24) (by omega) (by omega)).mpr hB2), y1, f_X6_cutBlock_b111, s_sblk5 (by omega), zb1_some, d1, zb2_some, d2, zb2_some]
      have e0 : f_X7_cut k f' g (Int32.ofNat n) (Int32.ofNat h) (Int32.ofNat b) (Int32.ofNat a) (Int32.ofNat len) = _ := cg_yes (k := k) (g := g) hn hh ex (n_lt0 (by omega))
      have Ga : F2 (8 + B * 11 + a) = Int32.ofNat len := by
        have c : a = 0 ∨ a = 1 ∨ a = 2 := by omega
        rcases c with rfl | rfl | rfl
        · rw [G0, if_pos rfl]
        · rw [G1, if_pos rfl]
        · rw [G2, if_pos rfl]
      have fb : ∀ w, w < 11 → w ≠ 5 → F2 (8 + b * 11 + w) = f' (8 + b * 11 + w) := fun w w1 w2 => fr _ (by omega) (by omega) (by unfold inB; omega) (by unfold inB; omega)
      have fo : ∀ w, w < 6 → F2 (272 + o * 6 + w) = f' (272 + o * 6 + w) := fun w w1 => fr _ (by omega) (by omega) (by unfold inB; omega) (by unfold inB; omega)
      have f0 : F2 0 = f' 0 := fr 0 (by omega) (by omega) (by unfold inB; omega) (by unfold inB; omega)
      have f3 : F2 3 = f' 3 := fr 3 (by omega) (by omega) (by unfold inB; omega) (by unfold inB; omega)
      obtain ⟨f2, h2, u1, u2, u3⟩ := un_ok (k := k) (f := f') (f' := F2) (g := g) hn hh
      have b249 : Te f (f_L_tries_b249 k pl p2 F2 (ring f' g n) (Int32.ofNat ((n + 1) % 7)) (Int32.ofNat (if h = 6 then 6 else h + 1)) (Int32.ofNat B) (Int32.ofNat b)) := by
        rw [f_L_tries_b249, u1, zb4_some, if_neg (n_lt0 (by omega)), f_L_tries_b261]
        exact t_263 R0 (by omega) hn u2 (a0.trans u3)
      rw [e0, zb5_some, if_pos rfl, o_of R2.c (by omega) (by omega), zb1_some, if_pos Ga, zl_e, o_of R2.c (by omega) (by omega), zb1_some, o_of R2.c (by omega) (by omega), zb1_some, fb a (by omega) (by omega), zl_e, o_c12 R2.c, zb1_some, f0, zl_e, y1, if_pos Gr, o_of10 R2.c (by omega), zb1_some, if_pos G10, f_L_tries_b215, if_neg n10, o_or3 R2.c o1, zb1_some]
      by_cases qs : F2 (272 + o * 6 + 3) = 0
      · have zg : ¬ zgiv F2 o B = -6 := by
          unfold zgiv
          have w3 : ¬ F2 (8 + B * 11 + 5) = 3 ∧ ¬ F2 (8 + B * 11 + 5) = 4 := by rcases G5 with r | r <;> rw [r] <;> decide
          rw [if_pos ⟨qs, w3.1, w3.2, G8, by rw [G7]; exact z1⟩, f3, fo 0 (by omega), fo 1 (by omega), fo 2 (by omega), G0, G1, G2]
          exact z3
        rw [if_pos qs, o_or6 R2.c (by omega) o1, zb1_some, zl_e, zl_e, bit_if (P := fun i => !decide (zgiv F2 o i = -6)) hB2 (show B < B + 2 by omega), if_pos (show (if (!decide (zgiv F2 o B = -6)) = true then (1 : Int32) else 0) = 1 by simp [zg])]
        exact b249
      · rw [if_neg qs]
        exact b249
theorem l_tries {k n h t B O : Nat} {f : Nat → Int32} {g : Nat → Nat → Int32} {pl p2 : Int32} (R : Inv f t B O) (ht : t ≤ 900) (hk : 400 ≤ k) (hn : n < 7) (hh : h ≤ 6) : Te f (f_L_tries k f g (Int32.ofNat n) (Int32.ofNat h) pl p2) := by
  have hB := R.c.hB
  have t40 : (-40 : Int32).toInt = -40 := by decide
  have t999 : (999 : Int32).toInt = 999 := by decide
  obtain ⟨-, -, ⟨g20, -⟩, -, nn, n1, n2⟩ := R.g
  have q5 : f 5 < 999 := by rw [n2, i_lt, i_nat (by omega), t999]; omega
  have x := night_x (k := k) (p1 := -40) R ⟨by decide, by decide⟩ q5
  rw [if_neg (show ¬ f 2 < -40 by rw [i_lt, t40]; omega)] at x
  obtain ⟨F1, z1, z2, z3⟩ := s_crack (k := k) R.c (by omega)
  obtain ⟨F, y1, y2, y3, y4⟩ := nt_ok (k := k) (P := zfr f) (p1 := -40) (fz := 1) (y := Int32.ofNat (zcnt (zfr f) B)) (F1 := F1) R (by omega) (.inr rfl) (by rw [i_lt, t999] at q5; exact q5) z2 z3
  rw [z1, zb2_some, y1] at x
  have zl := zcnt_le (P := zfr f) B
  have e0 : f_X7_night k f g (Int32.ofNat n) (Int32.ofNat h) (-40) = _ := cg_yes (k := k) (g := g) hn hh x (n_lt0 (by omega))
  obtain ⟨f2, h2, u1, u2, u3⟩ := un_ok (k := k) (f := f) (f' := F) (g := g) hn hh
  have R2 : Inv f2 t B O := R.al u3
  have cr : zbs (fun b => decide (F (8 + b * 11 + 7) = 1) && !decide (F (8 + b * 11 + 5) = 4)) B = zbs (fun b => decide (f (8 + b * 11 + 7) = 1) && !decide (f (8 + b * 11 + 5) = 4)) B ||| zbs (zfr f) B := by
    rw [b_or (by omega)]
    refine zbs_congr (fun b hb => ?_)
    obtain ⟨w5, w7⟩ := y4 b hb
    rw [w5, w7]
    cases q : zfr f b with
    | false => simp
    | true =>
      have : f (8 + b * 11 + 5) = 0 := by
        unfold zfr at q
        simp only [Bool.and_eq_true, decide_eq_true_eq] at q
        exact q.1.1
      rw [this]
      simp
  have c5 : f_X7_count k f2 (Int32.ofNat h2) pl 5 = some (zbs (fun b => decide (f (8 + b * 11 + 7) = 1) && !decide (f (8 + b * 11 + 5) = 4)) B) := by
    rw [o_c5 R2.c (by omega)]
    congr 1
    exact zbs_congr (fun b hb => by rw [u3 _ (by omega), u3 _ (by omega)])
  rw [f_L_tries, s_frost R.c (by omega), zb1_some, o_c5 R.c (by omega), zb1_some, e0, zb5_some, l_cnt (by omega) hB, zb1_some, if_pos rfl, o_c5 y2.c (by omega), zb1_some, zl_e, if_pos cr, o_c3 y2.c, zb1_some, if_pos y3, u1, zb4_some, if_neg (n_lt0 (by omega)), c5, zb1_some, if_pos rfl]
  exact t_65 R hk hn u2 u3
