/-! CUTTING -/
theorem InvS.less {f : Nat → Int32} {t B O σ ρ : Nat} (R : InvS f t B O σ) (h : ρ ≤ σ) : InvS f t B O ρ := by
  obtain ⟨h1, h2, h3, h4, h5, h6, h7, h8⟩ := R
  exact ⟨h1, h2, h3, h4, h5, h6, by omega, h8⟩
theorem zw_of {f : Nat → Int32} {c p q s d : Nat} (e : f (8 + c * 11 + 4) = Int32.ofNat p * Int32.ofNat q * Int32.ofNat s * Int32.ofNat d / 10000) (hp : p ≤ 300) (hq : q ≤ 300) (hs : s ≤ 300) (hd : d ≤ 30) : zw f c = p * q * s * d / 10000 := by
  obtain ⟨a, b⟩ := w_prod hp hq hs hd
  unfold zw
  rw [e, a, n_nat (by omega)]
theorem div_two {x y z : Nat} (h : x + y ≤ z) : x / 10000 + y / 10000 ≤ z / 10000 := by omega
theorem cut_wt {a x y z d v r : Nat} (ha : a < 3) (h : v + r ≤ if a = 0 then x else if a = 1 then y else z) :
    (if a = 0 then v else x) * (if a = 1 then v else y) * (if a = 2 then v else z) * d / 10000 + (if a = 0 then r else x) * (if a = 1 then r else y) * (if a = 2 then r else z) * d / 10000 ≤ x * y * z * d / 10000 := by
  refine div_two ?_
  have c : a = 0 ∨ a = 1 ∨ a = 2 := by omega
  rcases c with rfl | rfl | rfl
  · simp only [if_true, show ¬ (0 : Nat) = 1 by decide, show ¬ (0 : Nat) = 2 by decide, if_false] at h ⊢
    have := Nat.mul_le_mul_right (y * z * d) h
    rw [Nat.add_mul] at this
    have e : ∀ w, w * y * z * d = w * (y * z * d) := fun w => by ac_rfl
    rw [e, e, e]
    exact this
  · simp only [if_true, show ¬ (1 : Nat) = 0 by decide, show ¬ (1 : Nat) = 2 by decide, if_false] at h ⊢
    have := Nat.mul_le_mul_right (x * z * d) h
    rw [Nat.add_mul] at this
    have e : ∀ w, x * w * z * d = w * (x * z * d) := fun w => by ac_rfl
    rw [e, e, e]
    exact this
  · simp only [if_true, show ¬ (2 : Nat) = 0 by decide, show ¬ (2 : Nat) = 1 by decide, if_false] at h ⊢
    have := Nat.mul_le_mul_right (x * y * d) h
    rw [Nat.add_mul] at this
    have e : ∀ w, x * y * w * d = w * (x * y * d) := fun w => by ac_rfl
    rw [e, e, e]
    exact this
theorem ifn {A : Prop} [Decidable A] {x y : Nat} : (if A then Int32.ofNat x else Int32.ofNat y) = Int32.ofNat (if A then x else y) := by split <;> rfl
/-- a piece -/
theorem IB.piece {f F : Nat → Int32} {O B b a v : Nat} {w : Int32} (h : IB f O b) (hbB : b < B) (ha : a < 3) (hv : 1 ≤ v ∧ v ≤ 300) (hw : w = 0 ∨ w = 1)
    (F0 : F (8 + B * 11 + 0) = (if a = 0 then Int32.ofNat v else f (8 + b * 11 + 0))) (F1 : F (8 + B * 11 + 1) = (if a = 1 then Int32.ofNat v else f (8 + b * 11 + 1))) (F2 : F (8 + B * 11 + 2) = (if a = 2 then Int32.ofNat v else f (8 + b * 11 + 2))) (F3 : F (8 + B * 11 + 3) = f (8 + b * 11 + 3))
    (F4 : F (8 + B * 11 + 4) = (if a = 0 then Int32.ofNat v else f (8 + b * 11 + 0)) * (if a = 1 then Int32.ofNat v else f (8 + b * 11 + 1)) * (if a = 2 then Int32.ofNat v else f (8 + b * 11 + 2)) * f (8 + b * 11 + 3) / 10000) (F5 : F (8 + B * 11 + 5) = w) (F6 : F (8 + B * 11 + 6) = f (8 + b * 11 + 6)) (F7 : F (8 + B * 11 + 7) = f (8 + b * 11 + 7)) (F8 : F (8 + B * 11 + 8) = -6) (F9 : F (8 + B * 11 + 9) = -6) (F10 : F (8 + B * 11 + 10) = Int32.ofNat b) : IB F O B := by
  obtain ⟨h3, h4, h5, h6, h7, h8, h9, h10, h11, h12⟩ := h
  refine ⟨fun c hc => ?_, ?_, ?_, ?_, ?_, ?_, fun q => ?_, fun _ => F9, .inl F8, .inr ⟨b, hbB, F10⟩⟩
  · have q : c = 0 ∨ c = 1 ∨ c = 2 := by omega
    rcases q with rfl | rfl | rfl
    · rw [F0]
      by_cases e : a = 0
      · rw [if_pos e]; exact ⟨v, hv.1, hv.2, rfl⟩
      · rw [if_neg e]; exact h3 0 (by omega)
    · rw [F1]
      by_cases e : a = 1
      · rw [if_pos e]; exact ⟨v, hv.1, hv.2, rfl⟩
      · rw [if_neg e]; exact h3 1 (by omega)
    · rw [F2]
      by_cases e : a = 2
      · rw [if_pos e]; exact ⟨v, hv.1, hv.2, rfl⟩
      · rw [if_neg e]; exact h3 2 (by omega)
  · rw [F3]; exact h4
  · rw [F0, F1, F2, F3]; exact F4
  · rcases hw with rfl | rfl
    · exact ⟨0, by omega, F5⟩
    · exact ⟨1, by omega, F5⟩
  · rw [F6]; exact h7
  · rw [F7]; exact h8
  · rw [F5] at q
    rcases hw with r | r <;> rw [r] at q <;> exact absurd q (by decide)
theorem cut_ok {k t b a v r B O : Nat} {f : Nat → Int32} (R : Inv f t B O) (hk : 25 ≤ k) (hb : b < B) (ha : a < 3) (hB2 : B + 2 ≤ 24) (hv : 1 ≤ v ∧ v ≤ 300) (hr : 1 ≤ r ∧ r ≤ 300) (hn : (v : Int) + r ≤ (f (8 + b * 11 + a)).toInt) (h5 : f (8 + b * 11 + 5) = 0 ∨ f (8 + b * 11 + 5) = 1) (h8 : f (8 + b * 11 + 8) = -6) (y0 : Int32) :
    ∃ F1 F2, f_X6_addPiece k (upd f (8 + b * 11 + 5) 4) (Int32.ofNat b) (Int32.ofNat a) (Int32.ofNat v) y0 = some (Int32.ofNat B, F1) ∧ f_X6_addPiece k F1 (Int32.ofNat b) (Int32.ofNat a) (Int32.ofNat r) y0 = some (Int32.ofNat (B + 1), F2) ∧ Inv F2 t (B + 2) O ∧
      (∀ i, i ≠ 6 → i ≠ 8 + b * 11 + 5 → ¬ inB B i → ¬ inB (B + 1) i → F2 i = f i) ∧ F2 (8 + B * 11 + 0) = (if a = 0 then Int32.ofNat v else f (8 + b * 11 + 0)) ∧ F2 (8 + B * 11 + 1) = (if a = 1 then Int32.ofNat v else f (8 + b * 11 + 1)) ∧ F2 (8 + B * 11 + 2) = (if a = 2 then Int32.ofNat v else f (8 + b * 11 + 2)) ∧
      (F2 (8 + B * 11 + 5) = 0 ∨ F2 (8 + B * 11 + 5) = 1) ∧ F2 (8 + B * 11 + 7) = f (8 + b * 11 + 7) ∧ F2 (8 + B * 11 + 8) = -6 ∧ F2 (8 + B * 11 + 10) = Int32.ofNat b ∧ F2 (8 + (B + 1) * 11 + a) = Int32.ofNat r := by
  obtain ⟨f0, hf0⟩ : ∃ f0, f0 = upd f (8 + b * 11 + 5) 4 := ⟨_, rfl⟩
  have s6 := R.spot6 hb h5
  have o0 : ∀ i, i ≠ 8 + b * 11 + 5 → f0 i = f i := fun i hi => by rw [hf0, upd_ne hi]
  have R0 : InvS f0 t B O (zw f b) := by
    have rc := roof_chg (f := f) (f' := f0) hb (fun c hc e => o0 _ (by omega))
    have f5 : f0 (8 + b * 11 + 5) = 4 := by rw [hf0, upd_at]
    have z4 := R.sums.2
    have h := R.place (f' := f0) (v := 4) hb (fun i i1 i2 => o0 i i1) (by rcases h5 with q | q; exact .inl q; exact .inr (.inl q)) (by omega) f5 (fun q => by omega) (fun _ => by rw [o0 _ (by omega)]; exact s6) (fun c hc e n => absurd (by rw [o0 _ (by omega)]; exact s6) n) (by
      rw [f5, if_neg (show ¬ (4 : Int32) = 1 by decide)] at rc
      omega)
    rw [if_pos rfl] at h
    exact h
  obtain ⟨F1, e1, F6, fr, F0', F1', F2', F3', F4', F5', F6', F7', F8', F9', F10'⟩ := s_piece (k := k) (a := a) (len := Int32.ofNat v) (y0 := y0) R0.c hk (by omega) hb ha
  have c1 : CI F1 (B + 1) O := ⟨by omega, R.c.hO, F6, by rw [fr 7 (by omega) (by unfold inB; omega)]; exact R0.c.f7⟩
  obtain ⟨F2, e2, G6, fr2, G0, G1, G2, G3, G4, G5, G6', G7, G8, G9, G10⟩ := s_piece (k := k) (a := a) (len := Int32.ofNat r) (y0 := y0) c1 hk (by omega) (show b < B + 1 by omega) ha
  have v01 : ∀ {A : Prop} [Decidable A], ((if A then (1 : Int32) else 0) = 0 ∨ (if A then (1 : Int32) else 0) = 1) := fun {A} _ => by by_cases q : A <;> simp [q]
  have hz1 := R0.sums.2
  have IB1 : IB F1 O B := (R0.blk b hb).piece hb ha hv v01 F0' F1' F2' F3' F4' F5' F6' F7' F8' F9' F10'
  -- weights
  obtain ⟨h3, ⟨d, d1, d2, d3⟩, hw4, -⟩ := R0.blk b hb
  obtain ⟨x, x1, x2, x3⟩ := h3 0 (by omega)
  obtain ⟨y, y1, y2, y3⟩ := h3 1 (by omega)
  obtain ⟨z, z1, z2, z3⟩ := h3 2 (by omega)
  have w0 : zw f b = x * y * z * d / 10000 := by
    have : zw f b = zw f0 b := by unfold zw; rw [o0 _ (by omega)]
    rw [this]
    exact zw_of (by rw [hw4, x3, y3, z3, d3]) x2 y2 z2 d2
  have w1 : zw F1 B = (if a = 0 then v else x) * (if a = 1 then v else y) * (if a = 2 then v else z) * d / 10000 := by
    refine zw_of (by rw [F4', x3, y3, z3, d3, ifn, ifn, ifn]) ?_ ?_ ?_ d2 <;> split <;> omega
  have b1 : ∀ w, w < 11 → F1 (8 + b * 11 + w) = f0 (8 + b * 11 + w) := fun w hw => fr _ (by omega) (by unfold inB; omega)
  have w2 : zw F2 (B + 1) = (if a = 0 then r else x) * (if a = 1 then r else y) * (if a = 2 then r else z) * d / 10000 := by
    refine zw_of (by rw [G4, b1 0 (by omega), b1 1 (by omega), b1 2 (by omega), b1 3 (by omega), x3, y3, z3, d3, ifn, ifn, ifn]) ?_ ?_ ?_ d2 <;> split <;> omega
  have hs : v + r ≤ if a = 0 then x else if a = 1 then y else z := by
    have c : a = 0 ∨ a = 1 ∨ a = 2 := by omega
    rcases c with rfl | rfl | rfl
    · rw [← o0 _ (by omega), x3, i_nat (by omega)] at hn
      rw [if_pos rfl]
      omega
    · rw [← o0 _ (by omega), y3, i_nat (by omega)] at hn
      rw [if_neg (by decide), if_pos rfl]
      omega
    · rw [← o0 _ (by omega), z3, i_nat (by omega)] at hn
      rw [if_neg (by decide), if_neg (by decide)]
      omega
  have ww := cut_wt (d := d) ha hs
  rw [← w0, ← w1, ← w2] at ww
  have n10' : ¬ F1 (8 + B * 11 + 10) = -6 := by rw [F10']; exact n_neg6 (by omega)
  have R1 := R0.addB (by omega) fr F6 IB1 F9' (by rw [F5']; exact v01) (fun t => by
    rw [F5'] at t
    by_cases q : ¬ y0 = 0 ∧ zcnt (fun b => decide (f0 (8 + b * 11 + 5) = 1)) B < 4
    · exact q.2
    · rw [if_neg q] at t; exact absurd t (by decide)) (fun _ => by omega)
  rw [if_neg n10'] at R1
  have IB2 : IB F2 O (B + 1) := (R1.blk b (by omega)).piece (by omega) ha hr v01 G0 G1 G2 G3 G4 G5 G6' G7 G8 G9 G10
  have n10'' : ¬ F2 (8 + (B + 1) * 11 + 10) = -6 := by rw [G10]; exact n_neg6 (by omega)
  have R2 := R1.addB (by omega) fr2 G6 IB2 G9 (by rw [G5]; exact v01) (fun t => by
    rw [G5] at t
    by_cases q : ¬ y0 = 0 ∧ zcnt (fun b => decide (F1 (8 + b * 11 + 5) = 1)) (B + 1) < 4
    · exact q.2
    · rw [if_neg q] at t; exact absurd t (by decide)) (fun _ => by omega)
  rw [if_neg n10''] at R2
  have p1 : ∀ w, w < 11 → F2 (8 + B * 11 + w) = F1 (8 + B * 11 + w) := fun w hw => fr2 _ (by omega) (by unfold inB; omega)
  rw [← hf0]
  refine ⟨F1, F2, e1, e2, R2.less (Nat.zero_le _), fun i i1 i2 i3 i4 => by rw [fr2 i i1 i4, fr i i1 i3, o0 i i2], ?_, ?_, ?_, ?_, ?_, ?_, ?_, ?_⟩
  · rw [p1 0 (by omega), F0', o0 _ (by omega)]
  · rw [p1 1 (by omega), F1', o0 _ (by omega)]
  · rw [p1 2 (by omega), F2', o0 _ (by omega)]
  · rw [p1 5 (by omega), F5']; exact v01
  · rw [p1 7 (by omega), F7', o0 _ (by omega)]
  · rw [p1 8 (by omega), F8']
  · rw [p1 10 (by omega), F10']
  · have c : a = 0 ∨ a = 1 ∨ a = 2 := by omega
    rcases c with rfl | rfl | rfl
    · rw [G0, if_pos rfl]
    · rw [G1, if_pos rfl]
    · rw [G2, if_pos rfl]
/-- a cut of a block that there is -/
theorem cut_x {k t b a v B O : Nat} {f : Nat → Int32} (R : Inv f t B O) (hb : b < B) (ha : a < 3) (hv : 1 ≤ v ∧ v ≤ 300) : f_X6_cutBlock k f (Int32.ofNat b) (Int32.ofNat a) (Int32.ofNat v) = if ¬ (f 4 = 0 ∧ (f (8 + b * 11 + 5) = 0 ∨ f (8 + b * 11 + 5) = 1) ∧ f (8 + b * 11 + 8) = -6) then some (-5, f) else if (1 : Int32) ≤ f (8 + b * 11 + a) - Int32.ofNat v - f 0 then (if Int32.ofNat (B + 2) ≤ 24 then f_X6_cutBlock_b111 k (Int32.ofNat b) (Int32.ofNat a) (Int32.ofNat v) f (f (8 + b * 11 + a) - Int32.ofNat v - f 0) (if f (8 + b * 11 + 5) = 1 then 1 else 0) else some (-4, f)) else some (-5, f) := by
  have hB := R.c.hB
  have n3 : ¬ (3 : Int32) ≤ Int32.ofNat a := fun t => absurd ((n_le (a := 3) (by omega) (by omega)).mp t) (by omega)
  have qs : ¬ Int32.ofNat v < 1 ∧ ¬ (300 : Int32) < Int32.ofNat v := ⟨fun t => absurd ((n_lt (b := 1) (by omega) (by omega)).mp t) (by omega), fun t => absurd ((n_lt (a := 300) (by omega) (by omega)).mp t) (by omega)⟩
  rw [f_X6_cutBlock, h_blk1 R.c k hb, zb1_some, if_neg n10, if_neg (n_lt0 (by omega)), if_neg n3, s_size, zb1_some, if_neg (by rw [if_pos qs]; exact n10), s_blk (by omega) (by omega), zb1_some, zl_e, s_cell0, zb1_some, zl_e, s_sawn (by omega), zb1_some, s_cell6, s_blk5 (by omega), R.c.f6]
  simp only [flag, zb1_some, zl_e]
  rw [show Int32.ofNat B + 2 = Int32.ofNat (B + 2) from n_add B 2]
  by_cases w : f (8 + b * 11 + 5) = 1
  · simp only [if_pos w]
  · simp only [if_neg w]
/-- what is left behind a cut -/
theorem cut_rest {t b a v B O : Nat} {f : Nat → Int32} (R : Inv f t B O) (hb : b < B) (ha : a < 3) (hv : 1 ≤ v ∧ v ≤ 300) (q1 : (1 : Int32) ≤ f (8 + b * 11 + a) - Int32.ofNat v - f 0) : ∃ r : Nat, f (8 + b * 11 + a) - Int32.ofNat v - f 0 = Int32.ofNat r ∧ (1 ≤ r ∧ r ≤ 300) ∧ (v : Int) + r ≤ (f (8 + b * 11 + a)).toInt := by
  have t1 : (1 : Int32).toInt = 1 := by decide
  obtain ⟨⟨s0, s1⟩, -⟩ := R.g
  obtain ⟨n, n1, n2, n3'⟩ := (R.blk b hb).1 a ha
  have er : (f (8 + b * 11 + a) - Int32.ofNat v - f 0).toInt = (n : Int) - v - (f 0).toInt := by
    have : (f (8 + b * 11 + a) - Int32.ofNat v).toInt = (n : Int) - v := by
      rw [n3', i_sub (by rw [i_nat (by omega), i_nat (by omega)]; omega) (by rw [i_nat (by omega), i_nat (by omega)]; omega), i_nat (by omega), i_nat (by omega)]
    rw [i_sub (by rw [this]; omega) (by rw [this]; omega), this]
  rw [i_le, t1, er] at q1
  refine ⟨((n : Int) - v - (f 0).toInt).toNat, by rw [i_eq, er, i_nat (by omega)]; omega, by omega, ?_⟩
  rw [n3', i_nat (by omega)]
  omega
theorem st_cut {k t B O : Nat} {f : Nat → Int32} (R : Inv f t B O) (hk : 25 ≤ k) (p1 p2 p3 : Int32) : Rs t (f_X6_cutBlock k f p1 p2 p3) := by
  have hB := R.c.hB
  have t2 : (2 : Int32).toInt = 2 := by decide
  rcases h_blk R.c k p1 with ⟨b, b1, rfl, e1⟩ | ⟨-, e1⟩
  · by_cases qa : ¬ p2 < 0 ∧ ¬ (2 : Int32) < p2
    · obtain ⟨a, -, a2, rfl⟩ := n_btw (a := 0) (b := 2) (by omega) (by omega) qa
      have n3 : ¬ (3 : Int32) ≤ Int32.ofNat a := fun t => absurd ((n_le (a := 3) (by omega) (by omega)).mp t) (by omega)
      by_cases qs : ¬ p3 < 1 ∧ ¬ (300 : Int32) < p3
      · obtain ⟨v, v1, v2, rfl⟩ := n_btw (a := 1) (b := 300) (by omega) (by omega) qs
        have x1 := cut_x (k := k) R b1 (show a < 3 by omega) ⟨v1, v2⟩
        by_cases q : f 4 = 0 ∧ (f (8 + b * 11 + 5) = 0 ∨ f (8 + b * 11 + 5) = 1) ∧ f (8 + b * 11 + 8) = -6
        · rw [if_neg (fun t => t q)] at x1
          by_cases q1 : (1 : Int32) ≤ f (8 + b * 11 + a) - Int32.ofNat v - f 0
          · rw [if_pos q1] at x1
            obtain ⟨r, r1, r2, r3⟩ := cut_rest R b1 (show a < 3 by omega) ⟨v1, v2⟩ q1
            by_cases q2 : B + 2 ≤ 24
            · rw [if_pos (show Int32.ofNat (B + 2) ≤ 24 from (n_le (b := 24) (by omega) (by omega)).mpr q2)] at x1
              obtain ⟨F1, F2, d1, d2, R2, -⟩ := cut_ok (k := k) R hk b1 (show a < 3 by omega) q2 ⟨v1, v2⟩ r2 r3 q.2.1 q.2.2 (if f (8 + b * 11 + 5) = 1 then 1 else 0)
              rw [r1, f_X6_cutBlock_b111, s_sblk5 (by omega), zb1_some, d1, zb2_some, d2, zb2_some] at x1
              exact Rs.ok x1 R2
            · rw [if_neg (show ¬ Int32.ofNat (B + 2) ≤ 24 from fun t => q2 ((n_le (b := 24) (by omega) (by omega)).mp t))] at x1
              exact Rs.err R x1
          · rw [if_neg q1] at x1
            exact Rs.err R x1
        · rw [if_pos q] at x1
          exact Rs.err R x1
      · exact Rs.err R (r := -2) (by
          rw [f_X6_cutBlock, e1, zb1_some, if_neg n10, if_neg qa.1, if_neg n3, s_size, zb1_some, if_pos (by rw [if_neg qs])])
    · refine Rs.err R (r := -2) ?_
      rw [f_X6_cutBlock, e1, zb1_some, if_neg n10]
      by_cases q0 : p2 < 0
      · rw [if_pos q0]
      · have t3 : (3 : Int32).toInt = 3 := by decide
        rw [if_neg q0, if_pos (show (3 : Int32) ≤ p2 from by
          rw [i_le, t3]
          by_cases w : 3 ≤ p2.toInt
          · exact w
          · exact absurd ⟨q0, fun t => by rw [i_lt, t2] at t; omega⟩ qa)]
  · exact Rs.err R (r := -1) (by rw [f_X6_cutBlock, e1]; rfl)
