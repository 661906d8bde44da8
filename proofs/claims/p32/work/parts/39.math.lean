/-! THE AXLES -/
/-- the weight at a place of a lorry -/
def qw (f : Nat → Int32) (B l : Nat) (p : Nat) : Nat := if p < 5 then pwt f B (zw f) (5 * l + p) else 0
theorem pl_c {f : Nat → Int32} {t B O σ x : Nat} (R : InvS f t B O σ) (hx : x < 2147483648) :
    zsum (fun b => f (8 + b * 11 + 4)) (zat (fun b => f (8 + b * 11 + 9)) x) B = Int32.ofNat (pwt f B (zw f) x) ∧ pwt f B (zw f) x ≤ 81000 ∧ (zbs (zat (fun b => f (8 + b * 11 + 9)) x) B = 0 → pwt f B (zw f) x = 0) := by
  have hB := R.c.hB
  have e1 : zsum (fun b => f (8 + b * 11 + 4)) (zat (fun b => f (8 + b * 11 + 9)) x) B = Int32.ofNat (pwt f B (zw f) x) := zsum_nat B (fun b hb _ => (R.blk b hb).wt.1)
  have e2 : pwt f B (zw f) x ≤ B * 81000 := nsum_le B (fun b hb => (R.blk b hb).wt.2)
  have e3 : B * 81000 ≤ 24 * 81000 := Nat.mul_le_mul_right _ hB
  rcases zat_c hx R.uq with ⟨a1, a2, a3, a4⟩ | ⟨b0, b1, b2, b3, b4, b5, b6⟩
  · have := a4 (fun b => f (8 + b * 11 + 4))
    rw [e1] at this
    have z : pwt f B (zw f) x = 0 := (n_inj (by omega) (b := 0) (by omega)).mp this
    exact ⟨e1, by omega, fun _ => z⟩
  · have this : zsum (fun b => f (8 + b * 11 + 4)) (zat (fun b => f (8 + b * 11 + 9)) x) B = f (8 + b0 * 11 + 4) := b6 _
    obtain ⟨w1, w2⟩ := (R.blk b0 b1).wt
    rw [e1, w1] at this
    have z : pwt f B (zw f) x = zw f b0 := (n_inj (by omega) (by omega)).mp this
    refine ⟨e1, by omega, fun q => ?_⟩
    have := (b_empty (by omega)).mp q b0 b1
    rw [show zat (fun b => f (8 + b * 11 + 9)) x b0 = true from decide_eq_true b3] at this
    cases this
theorem qw_le {f : Nat → Int32} {t B O σ l : Nat} (R : InvS f t B O σ) (hl : l < 3) (p : Nat) : qw f B l p ≤ 81000 := by
  unfold qw
  split
  · exact (pl_c R (by omega)).2.1
  · omega
theorem ax_now {k l t B O σ : Nat} {f : Nat → Int32} (R : InvS f t B O σ) (hk : 25 ≤ k) (hl : l < 3) :
    f_X1_front k f (Int32.ofNat l) (-6) 0 = some (fb (axn (qw f B l) (fun p => 4 - p)) (-2)) ∧ f_X1_rear k f (Int32.ofNat l) (-6) 0 = some (fb (axn (qw f B l) (fun p => p)) (-2)) ∧ axn (qw f B l) (fun p => 4 - p) < 16777216 ∧ axn (qw f B l) (fun p => p) < 16777216 := by
  have hB := R.c.hB
  have wb : ∀ p, qw f B l p ≤ 400000 := fun p => by have := qw_le R hl p; omega
  have a1 : ∀ p, p < 5 → f_X1_weightAt k f (Int32.ofNat l) (Int32.ofNat p) (-6) 0 = some (FP.i2f (Int32.ofNat (qw f B l p))) := fun p hp => by
    rw [s_wat R.c hk, if_neg (n_neg6 (by omega)), Int32.zero_add, (pl_c R (show 5 * l + p < 2147483648 by omega)).1]
    unfold qw
    rw [if_pos hp]
  exact ⟨s_front hk wb a1, s_rear hk wb a1, axn_lt wb (fun p _ => by show 4 - p ≤ 4; omega), axn_lt wb (fun p _ => by show p ≤ 4; omega)⟩
/-- with a block more, at a free place -/
def qwm (f : Nat → Int32) (B l b p : Nat) (q : Nat) : Nat := if q < 5 then (if q = p then zw f b else 0) + pwt f B (zw f) (5 * l + q) else 0
theorem ax_more {k l p b t B O σ : Nat} {f : Nat → Int32} (R : InvS f t B O σ) (hk : 25 ≤ k) (hl : l < 3) (hp : p < 5) (hb : b < B) :
    f_X1_front k f (Int32.ofNat l) (Int32.ofNat p) (f (8 + b * 11 + 4)) = some (fb (axn (qwm f B l b p) (fun p => 4 - p)) (-2)) ∧ f_X1_rear k f (Int32.ofNat l) (Int32.ofNat p) (f (8 + b * 11 + 4)) = some (fb (axn (qwm f B l b p) (fun p => p)) (-2)) ∧ axn (qwm f B l b p) (fun p => 4 - p) < 16777216 ∧ axn (qwm f B l b p) (fun p => p) < 16777216 := by
  have hB := R.c.hB
  obtain ⟨b1, b2⟩ := (R.blk b hb).wt
  have wb : ∀ q, qwm f B l b p q ≤ 400000 := fun q => by
    unfold qwm
    split
    · have := (pl_c R (show 5 * l + q < 2147483648 by omega)).2.1
      split <;> omega
    · omega
  have a1 : ∀ q, q < 5 → f_X1_weightAt k f (Int32.ofNat l) (Int32.ofNat q) (Int32.ofNat p) (f (8 + b * 11 + 4)) = some (FP.i2f (Int32.ofNat (qwm f B l b p q))) := fun q hq => by
    rw [s_wat R.c hk, (pl_c R (show 5 * l + q < 2147483648 by omega)).1]
    unfold qwm
    rw [if_pos hq, ← n_add, b1]
    by_cases e : q = p
    · rw [if_pos e, if_pos (by rw [e])]
    · rw [if_neg e, if_neg (fun r => e ((n_inj (by omega) (by omega)).mp r))]
      rfl
  exact ⟨s_front hk wb a1, s_rear hk wb a1, axn_lt wb (fun p _ => by show 4 - p ≤ 4; omega), axn_lt wb (fun p _ => by show p ≤ 4; omega)⟩
/-- the sum over the blocks is the sum over the places -/
theorem zon_at {S : Nat → Int32} {l b : Nat} (h : zon S l b = true) : ∃ p, p < 5 ∧ S b = Int32.ofNat (5 * l + p) := by
  unfold zon at h
  simp only [Bool.or_eq_true] at h
  rcases h with (((h | h) | h) | h) | h
  · exact ⟨0, by omega, of_decide_eq_true h⟩
  · exact ⟨1, by omega, of_decide_eq_true h⟩
  · exact ⟨2, by omega, of_decide_eq_true h⟩
  · exact ⟨3, by omega, of_decide_eq_true h⟩
  · exact ⟨4, by omega, of_decide_eq_true h⟩
theorem at_zon {S : Nat → Int32} {l b p : Nat} (hp : p < 5) (h : S b = Int32.ofNat (5 * l + p)) : zon S l b = true := by
  unfold zon
  have c : p = 0 ∨ p = 1 ∨ p = 2 ∨ p = 3 ∨ p = 4 := by omega
  rcases c with rfl | rfl | rfl | rfl | rfl <;> simp [zat, h]
theorem ax_sum {S : Nat → Int32} {W j : Nat → Nat} {l : Nat} (hl : l < 3) : ∀ n, nsum (fun b => W b * j ((S b).toNatClampNeg % 5)) (zon S l) n = axn (fun p => nsum W (zat S (5 * l + p)) n) j := by
  intro n
  induction n with
  | zero => simp [nsum, axn]
  | succ n ih =>
    rw [nsum, ih]
    unfold axn
    simp only [nsum]
    by_cases h : zon S l n = true
    · obtain ⟨p, hp, e⟩ := zon_at h
      rw [if_pos h, e, n_nat (by omega), show (5 * l + p) % 5 = p by omega]
      have z : ∀ q, q < 5 → (zat S (5 * l + q) n = true ↔ q = p) := fun q hq => by
        unfold zat
        rw [decide_eq_true_eq, e, n_inj (by omega) (by omega)]
        omega
      have c : p = 0 ∨ p = 1 ∨ p = 2 ∨ p = 3 ∨ p = 4 := by omega
      rcases c with rfl | rfl | rfl | rfl | rfl
      · rw [if_pos ((z 0 (by omega)).mpr rfl), if_neg (fun q => absurd ((z 1 (by omega)).mp q) (by decide)), if_neg (fun q => absurd ((z 2 (by omega)).mp q) (by decide)), if_neg (fun q => absurd ((z 3 (by omega)).mp q) (by decide)), if_neg (fun q => absurd ((z 4 (by omega)).mp q) (by decide)), Nat.add_mul]
        omega
      · rw [if_neg (fun q => absurd ((z 0 (by omega)).mp q) (by decide)), if_pos ((z 1 (by omega)).mpr rfl), if_neg (fun q => absurd ((z 2 (by omega)).mp q) (by decide)), if_neg (fun q => absurd ((z 3 (by omega)).mp q) (by decide)), if_neg (fun q => absurd ((z 4 (by omega)).mp q) (by decide)), Nat.add_mul]
        omega
      · rw [if_neg (fun q => absurd ((z 0 (by omega)).mp q) (by decide)), if_neg (fun q => absurd ((z 1 (by omega)).mp q) (by decide)), if_pos ((z 2 (by omega)).mpr rfl), if_neg (fun q => absurd ((z 3 (by omega)).mp q) (by decide)), if_neg (fun q => absurd ((z 4 (by omega)).mp q) (by decide)), Nat.add_mul]
        omega
      · rw [if_neg (fun q => absurd ((z 0 (by omega)).mp q) (by decide)), if_neg (fun q => absurd ((z 1 (by omega)).mp q) (by decide)), if_neg (fun q => absurd ((z 2 (by omega)).mp q) (by decide)), if_pos ((z 3 (by omega)).mpr rfl), if_neg (fun q => absurd ((z 4 (by omega)).mp q) (by decide)), Nat.add_mul]
        omega
      · rw [if_neg (fun q => absurd ((z 0 (by omega)).mp q) (by decide)), if_neg (fun q => absurd ((z 1 (by omega)).mp q) (by decide)), if_neg (fun q => absurd ((z 2 (by omega)).mp q) (by decide)), if_neg (fun q => absurd ((z 3 (by omega)).mp q) (by decide)), if_pos ((z 4 (by omega)).mpr rfl), Nat.add_mul]
        omega
    · rw [if_neg h]
      have z : ∀ q, q < 5 → ¬ zat S (5 * l + q) n = true := fun q hq r => h (at_zon hq (of_decide_eq_true r))
      rw [if_neg (z 0 (by omega)), if_neg (z 1 (by omega)), if_neg (z 2 (by omega)), if_neg (z 3 (by omega)), if_neg (z 4 (by omega))]
theorem axn_congr {w v j : Nat → Nat} (h : ∀ p, p < 5 → w p = v p) : axn w j = axn v j := by
  unfold axn
  rw [h 0 (by omega), h 1 (by omega), h 2 (by omega), h 3 (by omega), h 4 (by omega)]
theorem axn_all {w : Nat → Nat} : axn w (fun p => 4 - p) + axn w (fun p => p) = 4 * axn w (fun _ => 1) := by
  unfold axn
  show 0 + w 0 * 4 + w 1 * 3 + w 2 * 2 + w 3 * 1 + w 4 * 0 + (0 + w 0 * 0 + w 1 * 1 + w 2 * 2 + w 3 * 3 + w 4 * 4) = 4 * (0 + w 0 * 1 + w 1 * 1 + w 2 * 1 + w 3 * 1 + w 4 * 1)
  omega
/-- the load is the sum of the places' weights -/
theorem ax_load {f : Nat → Int32} {B l : Nat} (hl : l < 3) : nsum (zw f) (zon (fun b => f (8 + b * 11 + 9)) l) B = axn (qw f B l) (fun _ => 1) := by
  have := ax_sum (S := fun b => f (8 + b * 11 + 9)) (W := zw f) (j := fun _ => 1) hl B
  simp only [Nat.mul_one] at this
  rw [this]
  exact axn_congr (fun p hp => by unfold qw pwt; rw [if_pos hp])
/-- with a block more at a place, as of the state in which it stands there -/
theorem ax_put {f F : Nat → Int32} {t B O l p b : Nat} {j : Nat → Nat} (R : Inv f t B O) (hl : l < 3) (hp : p < 5) (hb : b < B) (h9 : f (8 + b * 11 + 9) = -6) (hF : F = upd (upd f (8 + b * 11 + 5) 2) (8 + b * 11 + 9) (Int32.ofNat (5 * l + p))) : axn (qw F B l) j = axn (qwm f B l b p) j := by
  refine axn_congr (fun q hq => ?_)
  unfold qw qwm pwt
  rw [if_pos hq, if_pos hq]
  have zz : ∀ c, zw F c = zw f c := fun c => by unfold zw; rw [hF, upd_ne (by omega), upd_ne (by omega)]
  have hc := nsum_chg (w := zw f) (v := zw F) (P := zat (fun b => f (8 + b * 11 + 9)) (5 * l + q)) (Q := zat (fun b => F (8 + b * 11 + 9)) (5 * l + q)) (b0 := b) B hb (fun c hc hne => ⟨by
    have e : F (8 + c * 11 + 9) = f (8 + c * 11 + 9) := by rw [hF, upd_ne (by omega), upd_ne (by omega)]
    show decide (f (8 + c * 11 + 9) = _) = decide (F (8 + c * 11 + 9) = _)
    rw [e], (zz c).symm⟩)
  have p1 : ¬ zat (fun b => f (8 + b * 11 + 9)) (5 * l + q) b = true := fun r => by
    have r : f (8 + b * 11 + 9) = _ := of_decide_eq_true r
    rw [h9] at r
    exact n_neg6 (by omega) r.symm
  have p2 : zat (fun b => F (8 + b * 11 + 9)) (5 * l + q) b = true ↔ q = p := by
    have e9 : F (8 + b * 11 + 9) = Int32.ofNat (5 * l + p) := by rw [hF, upd_at]
    show decide (F (8 + b * 11 + 9) = _) = true ↔ _
    rw [decide_eq_true_eq, e9, n_inj (by omega) (by omega)]
    omega
  rw [if_neg p1, zz b] at hc
  by_cases e : q = p
  · rw [if_pos (p2.mpr e)] at hc
    rw [if_pos e]
    omega
  · rw [if_neg (fun r => e (p2.mp r))] at hc
    rw [if_neg e]
    omega
/-! what the law sums -/
theorem d_5m : ∀ s, s < 15 → Int32.ofNat s - Int32.ofNat s / 5 * 5 = Int32.ofNat (s % 5) := by decide +kernel
theorem o_lo3 {k l B O : Nat} {f : Nat → Int32} (c : CI f B O) (hk : 25 ≤ k) (hl : l < 3) : f_X7_ofLorry k f (Int32.ofNat l) 3 = some (zbs (zon (fun b => f (8 + b * 11 + 9)) l) B) := by
  rw [f_X7_ofLorry, h_lor1 k hl, zb1_some, if_neg n10, if_neg (by decide), if_neg (by decide), if_neg (by decide), if_pos rfl, s_on c hk, zb1_some]
def jl (p3 : Int32) (p : Nat) : Nat := if p3 = 0 then 4 - p else p
theorem l_axle_loop {k l t B O σ : Nat} {f : Nat → Int32} {hz pl p3 : Int32} (R : InvS f t B O σ) (hk : 25 ≤ k) (hl : l < 3) : ∀ n i, i ≤ B → B - i < n → f_L_axle_b5 k f hz pl (Int32.ofNat l) p3 n (Int32.ofNat (nsum (fun b => zw f b * jl p3 ((f (8 + b * 11 + 9)).toNatClampNeg % 5)) (zon (fun b => f (8 + b * 11 + 9)) l) i)) (Int32.ofNat i) = some (Int32.ofNat (nsum (fun b => zw f b * jl p3 ((f (8 + b * 11 + 9)).toNatClampNeg % 5)) (zon (fun b => f (8 + b * 11 + 9)) l) B)) := by
  have hB := R.c.hB
  intro n
  induction n with
  | zero => intro i _ h; omega
  | succ n ih =>
    intro i hi hn
    rw [f_L_axle_b5, o_c1 R.c, zb1_some]
    by_cases h : i < B
    · rw [if_neg (fun q => absurd ((n_le (by omega) (by omega)).mp q) (by omega)), o_of9 R.c h, zb1_some, o_lo3 R.c hk hl, zb1_some, zl_e, zl_e, b_test (by omega), b_zbs B (by omega) i (by omega)]
      have nx := ih (i + 1) (by omega) (by omega)
      rw [nsum] at nx
      by_cases q : zon (fun b => f (8 + b * 11 + 9)) l i = true
      · obtain ⟨p, hp, e⟩ := zon_at q
        have e : f (8 + i * 11 + 9) = Int32.ofNat (5 * l + p) := e
        rw [if_pos q, e, n_nat (by omega), show (5 * l + p) % 5 = p by omega] at nx
        rw [if_pos (by rw [if_pos (by rw [q]; simp [h])]), f_L_axle_b45, if_neg n10, o_of4 R.c h, zb1_some, (R.blk i h).wt.1, e, d_5m _ (by omega), show (5 * l + p) % 5 = p by omega, zl_e, zl_e, n_4sub hp]
        have b82 : ∀ j, f_L_axle_b81 k f hz pl (Int32.ofNat l) p3 (f_L_axle_b5 k f hz pl (Int32.ofNat l) p3 n) (Int32.ofNat i) (Int32.ofNat j) (Int32.ofNat (zw f i)) (Int32.ofNat (nsum (fun b => zw f b * jl p3 ((f (8 + b * 11 + 9)).toNatClampNeg % 5)) (zon (fun b => f (8 + b * 11 + 9)) l) i)) = f_L_axle_b5 k f hz pl (Int32.ofNat l) p3 n (Int32.ofNat (nsum (fun b => zw f b * jl p3 ((f (8 + b * 11 + 9)).toNatClampNeg % 5)) (zon (fun b => f (8 + b * 11 + 9)) l) i + zw f i * j)) (Int32.ofNat (i + 1)) := fun j => by
          rw [f_L_axle_b81, zl_e, n_mul, f_L_axle_b82, zl_e, zl_e, n_add, n_suc]
        unfold jl at nx
        by_cases z : p3 = 0
        · rw [if_pos z, b82]
          rw [if_pos z] at nx
          exact nx
        · rw [if_neg z, zl_e, b82]
          rw [if_neg z] at nx
          exact nx
      · rw [if_neg q] at nx
        rw [if_neg (by rw [if_neg (by simp [q])]; decide), f_L_axle_b45, if_pos rfl, f_L_axle_b82, zl_e, zl_e, n_suc, Int32.add_zero]
        exact nx
    · have : i = B := by omega
      subst this
      rw [if_pos ((n_le (by omega) (by omega)).mpr (Nat.le_refl _))]
theorem l_axle {k l t B O σ : Nat} {f : Nat → Int32} {hz pl p3 : Int32} (R : InvS f t B O σ) (hk : 25 ≤ k) (hl : l < 3) : f_L_axle k f hz pl (Int32.ofNat l) p3 = some (Int32.ofNat (axn (qw f B l) (jl p3))) := by
  have hB := R.c.hB
  have := l_axle_loop (k := k) (hz := hz) (pl := pl) (p3 := p3) R hk hl k 0 (by omega) (by omega)
  rw [ax_sum (S := fun b => f (8 + b * 11 + 9)) (W := zw f) (j := jl p3) hl B, axn_congr (v := qw f B l) (fun p hp => by unfold qw pwt; rw [if_pos hp])] at this
  rw [f_L_axle]
  exact this
