/-! the class, as in the proof of whole (wip/p32/math/ext.py) -/
theorem w_prod {a b c d : Nat} (ha : a ≤ 300) (hb : b ≤ 300) (hc : c ≤ 300) (hd : d ≤ 30) : Int32.ofNat a * Int32.ofNat b * Int32.ofNat c * Int32.ofNat d / 10000 = Int32.ofNat (a * b * c * d / 10000) ∧ a * b * c * d / 10000 ≤ 81000 := by
  have h1 : a * b ≤ 90000 := Nat.mul_le_mul ha hb
  have h2 : a * b * c ≤ 27000000 := Nat.mul_le_mul h1 hc
  have h3 : a * b * c * d ≤ 810000000 := Nat.mul_le_mul h2 hd
  refine ⟨?_, by omega⟩
  rw [n_mul, n_mul, n_mul, show (10000 : Int32) = Int32.ofNat 10000 from rfl, Int32.ofNat_div (by omega) (by omega)]
theorem j_in {f ms : Nat → Int32} {n : Nat} {v : Int32} (hn : n ≤ 24) (p : Int32) : (∃ b, b < n ∧ p = Int32.ofNat b ∧ ¬ p < 0 ∧ ¬ Int32.ofNat n ≤ p ∧ ¬ Int32.ofNat n - 1 < p) ∨ ((p < 0 ∨ Int32.ofNat n ≤ p) ∧ (p < 0 ∨ Int32.ofNat n - 1 < p)) := by
  have t1 : (1 : Int32).toInt = 1 := by decide
  have t0 : (0 : Int32).toInt = 0 := by decide
  have e : (Int32.ofNat n - 1).toInt = (n : Int) - 1 := by
    rw [i_sub (by rw [i_nat (by omega), t1]; omega) (by rw [i_nat (by omega), t1]; omega), i_nat (by omega), t1]
  by_cases h0 : p < 0
  · exact .inr ⟨.inl h0, .inl h0⟩
  · by_cases h1 : Int32.ofNat n ≤ p
    · refine .inr ⟨.inr h1, .inr ?_⟩
      rw [i_lt, e]
      rw [i_le, i_nat (by omega)] at h1
      omega
    · obtain ⟨b, b1, b2⟩ := n_of h0 h1 (by omega)
      refine .inl ⟨b, b1, b2, h0, h1, ?_⟩
      rw [i_lt, e, b2, i_nat (by omega)]
      omega
theorem zbo_if {A : Prop} [Decidable A] : zbo (if A then (1 : Int32) else 0) = true := by
  unfold zbo
  by_cases h : A <;> simp [h]
theorem zsum_chg {w v : Nat → Int32} {P Q : Nat → Bool} {b0 : Nat} : ∀ n, b0 < n → (∀ b, b < n → b ≠ b0 → P b = Q b ∧ w b = v b) → zsum v Q n = zsum w P n - (if P b0 then w b0 else 0) + (if Q b0 then v b0 else 0) := by
  intro n
  induction n with
  | zero => intro h; omega
  | succ n ih =>
    intro h hc
    rw [zsum, zsum]
    by_cases q : b0 = n
    · subst q
      have e : zsum v Q b0 = zsum w P b0 := (zsum_congr (fun i hi => (hc i (by omega) (by omega)).1) (fun i hi _ => (hc i (by omega) (by omega)).2)).symm
      rw [e]
      have z : ∀ x y : Int32, x + y - y = x := fun x y => Int32.add_sub_cancel ..
      cases hP : P b0 <;> cases hQ : Q b0 <;> simp [z]
    · obtain ⟨c1, c2⟩ := hc n (by omega) (fun r => q r.symm)
      rw [ih (by omega) (fun b hb hne => hc b (by omega) hne), ← c1, ← c2]
      cases hP : P n with
      | false => rfl
      | true =>
        simp only [if_true]
        generalize zsum w P n = A
        generalize (if P b0 = true then w b0 else 0) = C
        generalize (if Q b0 = true then v b0 else 0) = D
        rw [Int32.sub_eq_add_neg, Int32.sub_eq_add_neg, Int32.add_assoc, Int32.add_assoc, Int32.add_assoc, Int32.add_assoc]
        congr 1
        rw [Int32.add_comm (w n), Int32.add_assoc]
theorem zcnt_chg {P Q : Nat → Bool} {b0 : Nat} : ∀ n, b0 < n → (∀ b, b < n → b ≠ b0 → P b = Q b) → zcnt Q n + (if P b0 then 1 else 0) = zcnt P n + (if Q b0 then 1 else 0) := by
  intro n
  induction n with
  | zero => intro h; omega
  | succ n ih =>
    intro h hc
    rw [zcnt, zcnt]
    by_cases q : b0 = n
    · subst q
      have e : zcnt Q b0 = zcnt P b0 := (zcnt_congr (fun i hi => hc i (by omega) (by omega))).symm
      rw [e]
      cases hP : P b0 <;> cases hQ : Q b0 <;> simp
    · have c1 := hc n (by omega) (fun r => q r.symm)
      have := ih (by omega) (fun b hb hne => hc b (by omega) hne)
      rw [← c1]
      cases hP : P n <;> simp <;> omega
theorem Lm.same {f f' : Nat → Int32} (h : Lm f) (hf : ∀ i, 332 ≤ i → i < 344 → f' i = f i) : Lm f' := fun l hl w hw => by
  rw [hf _ (by omega) (by omega)]; exact h l hl w hw
theorem Uq.same {S T : Nat → Int32} {B : Nat} (h : Uq S B) (e : ∀ b, b < B → T b = S b) : Uq T B := by
  intro b hb c hc q n
  rw [e b hb] at q n
  rw [e c hc] at q
  exact h b hb c hc q n
theorem i_add100 {x : Int32} (h1 : -20 ≤ x.toInt) (h2 : x.toInt ≤ 99) : ¬ x + 100 < 0 := by
  have t : (100 : Int32).toInt = 100 := by decide
  have t0 : (0 : Int32).toInt = 0 := by decide
  rw [i_lt, i_add (by rw [t]; omega) (by rw [t]; omega), t, t0]
  omega
theorem s_limit {k : Nat} {p : Int32} : f_X6_isLimit k p = some (if ¬ p < 100 ∧ ¬ (30000 : Int32) < p then 1 else 0) := by
  rw [f_X6_isLimit]
  by_cases h : p < 100
  · simp [h]
  · by_cases h1 : (30000 : Int32) < p <;> simp [h, h1]
theorem n_btw {p : Int32} {a b : Nat} (ha : a < 2147483648) (hb : b < 2147483648) (h : ¬ p < Int32.ofNat a ∧ ¬ Int32.ofNat b < p) : ∃ n, a ≤ n ∧ n ≤ b ∧ p = Int32.ofNat n := by
  obtain ⟨h1, h2⟩ := h
  rw [i_lt, i_nat ha] at h1
  rw [i_lt, i_nat hb] at h2
  refine ⟨p.toInt.toNat, by omega, by omega, ?_⟩
  rw [i_eq, i_nat (by omega)]
  omega
theorem s_size {k : Nat} {p : Int32} : f_X7_isSize k p = some (if ¬ p < 1 ∧ ¬ (300 : Int32) < p then 1 else 0) := by
  rw [f_X7_isSize]
  by_cases h : p < 1
  · simp [h]
  · by_cases h1 : (300 : Int32) < p <;> simp [h, h1]
theorem zmx_n {a b : Nat} (ha : a < 2147483648) (hb : b < 2147483648) : zmx (Int32.ofNat a) (Int32.ofNat b) = Int32.ofNat (max a b) := by
  unfold zmx
  by_cases h : a < b
  · rw [if_pos ((n_lt ha hb).mpr h), show max a b = b by omega]
  · rw [if_neg (fun q => h ((n_lt ha hb).mp q)), show max a b = a by omega]
theorem zmn_n {a b : Nat} (ha : a < 2147483648) (hb : b < 2147483648) : zmn (Int32.ofNat a) (Int32.ofNat b) = Int32.ofNat (min a b) := by
  unfold zmn
  by_cases h : b < a
  · rw [if_pos ((n_lt hb ha).mpr h), show min a b = b by omega]
  · rw [if_neg (fun q => h ((n_lt hb ha).mp q)), show min a b = a by omega]
theorem srt_n {x y z : Nat} (hx : 1 ≤ x ∧ x ≤ 300) (hy : 1 ≤ y ∧ y ≤ 300) (hz : 1 ≤ z ∧ z ≤ 300) : ∃ p q r, (1 ≤ p ∧ p ≤ 300) ∧ (1 ≤ q ∧ q ≤ 300) ∧ (1 ≤ r ∧ r ≤ 300) ∧ zmx (Int32.ofNat x) (zmx (Int32.ofNat y) (Int32.ofNat z)) = Int32.ofNat p ∧ Int32.ofNat x + Int32.ofNat y + Int32.ofNat z - zmx (Int32.ofNat x) (zmx (Int32.ofNat y) (Int32.ofNat z)) - zmn (Int32.ofNat x) (zmn (Int32.ofNat y) (Int32.ofNat z)) = Int32.ofNat q ∧ zmn (Int32.ofNat x) (zmn (Int32.ofNat y) (Int32.ofNat z)) = Int32.ofNat r := by
  have e1 : zmx (Int32.ofNat x) (zmx (Int32.ofNat y) (Int32.ofNat z)) = Int32.ofNat (max x (max y z)) := by rw [zmx_n (by omega) (by omega), zmx_n (by omega) (by omega)]
  have e2 : zmn (Int32.ofNat x) (zmn (Int32.ofNat y) (Int32.ofNat z)) = Int32.ofNat (min x (min y z)) := by rw [zmn_n (by omega) (by omega), zmn_n (by omega) (by omega)]
  refine ⟨max x (max y z), x + y + z - max x (max y z) - min x (min y z), min x (min y z), by omega, by omega, by omega, e1, ?_, e2⟩
  rw [e1, e2, n_add, n_add, n_sub (by omega), n_sub (by omega)]
theorem zgiv_c {f : Nat → Int32} {o b : Nat} (h : ¬ zgiv f o b = -6) : f (272 + o * 6 + 3) = 0 ∧ ¬ f (8 + b * 11 + 5) = 3 ∧ f (8 + b * 11 + 8) = -6 := by
  unfold zgiv at h
  by_cases q : f (272 + o * 6 + 3) = 0 ∧ ¬ f (8 + b * 11 + 5) = 3 ∧ ¬ f (8 + b * 11 + 5) = 4 ∧ f (8 + b * 11 + 8) = -6 ∧ f (8 + b * 11 + 7) = 0
  · exact ⟨q.1, q.2.1, q.2.2.2.1⟩
  · rw [if_neg q] at h; exact absurd rfl h
theorem d_5 : ∀ s, s < 15 → Int32.ofNat s / 5 = Int32.ofNat (s / 5) := by decide +kernel
def inB (B i : Nat) : Prop := 8 + B * 11 ≤ i ∧ i < 8 + B * 11 + 11
theorem s_add {k B O : Nat} {f : Nat → Int32} {s0 s1 s2 d : Int32} (h6 : f 6 = Int32.ofNat B) (hB : B < 24) : ∃ F, f_X6_addBlock k f s0 s1 s2 d = some (Int32.ofNat B, F) ∧ F 6 = Int32.ofNat (B + 1) ∧ (∀ i, i ≠ 6 → ¬ inB B i → F i = f i) ∧
    F (8 + B * 11 + 0) = s0 ∧ F (8 + B * 11 + 1) = s1 ∧ F (8 + B * 11 + 2) = s2 ∧ F (8 + B * 11 + 3) = d ∧ F (8 + B * 11 + 4) = s0 * s1 * s2 * d / 10000 ∧ F (8 + B * 11 + 5) = 0 ∧ F (8 + B * 11 + 6) = 3 ∧ F (8 + B * 11 + 7) = 0 ∧ F (8 + B * 11 + 8) = -6 ∧ F (8 + B * 11 + 9) = -6 ∧ F (8 + B * 11 + 10) = -6 := by
  refine ⟨_, by
    rw [f_X6_addBlock, s_cell6, h6]
    simp only [zb1_some, zl_e]
    rw [n_suc, s_set6]
    simp only [zb1_some, s_sblk0 hB, s_sblk1 hB, s_sblk2 hB, s_sblk3 hB, s_sblk4 hB, s_sblk5 hB, s_sblk6 hB, s_sblk7 hB, s_sblk8 hB, s_sblk9 hB, s_sblk10 hB]
    rfl, ?_⟩
  refine ⟨by simp (disch := omega) only [upd_ne, upd_at], fun i i1 i2 => ?_, by simp (disch := omega) only [upd_ne, upd_at], by simp (disch := omega) only [upd_ne, upd_at], by simp (disch := omega) only [upd_ne, upd_at], by simp (disch := omega) only [upd_ne, upd_at], by simp (disch := omega) only [upd_ne, upd_at], by simp (disch := omega) only [upd_ne, upd_at], by simp (disch := omega) only [upd_ne, upd_at], by simp (disch := omega) only [upd_ne, upd_at], by simp (disch := omega) only [upd_ne, upd_at], by simp (disch := omega) only [upd_ne, upd_at], by simp (disch := omega) only [upd_ne, upd_at]⟩
  unfold inB at i2
  rw [upd_ne (by omega), upd_ne (by omega), upd_ne (by omega), upd_ne (by omega), upd_ne (by omega), upd_ne (by omega), upd_ne (by omega), upd_ne (by omega), upd_ne (by omega), upd_ne (by omega), upd_ne (by omega), upd_ne (by omega)]
theorem s_piece {k b a B O : Nat} {f : Nat → Int32} {len y0 : Int32} (c : CI f B O) (hk : 25 ≤ k) (hB : B < 24) (hb : b < B) (ha : a < 3) : ∃ F, f_X6_addPiece k f (Int32.ofNat b) (Int32.ofNat a) len y0 = some (Int32.ofNat B, F) ∧ F 6 = Int32.ofNat (B + 1) ∧ (∀ i, i ≠ 6 → ¬ inB B i → F i = f i) ∧
    F (8 + B * 11 + 0) = (if a = 0 then len else f (8 + b * 11 + 0)) ∧ F (8 + B * 11 + 1) = (if a = 1 then len else f (8 + b * 11 + 1)) ∧ F (8 + B * 11 + 2) = (if a = 2 then len else f (8 + b * 11 + 2)) ∧ F (8 + B * 11 + 3) = f (8 + b * 11 + 3) ∧
    F (8 + B * 11 + 4) = (if a = 0 then len else f (8 + b * 11 + 0)) * (if a = 1 then len else f (8 + b * 11 + 1)) * (if a = 2 then len else f (8 + b * 11 + 2)) * f (8 + b * 11 + 3) / 10000 ∧
    F (8 + B * 11 + 5) = (if ¬ y0 = 0 ∧ zcnt (fun b => decide (f (8 + b * 11 + 5) = 1)) B < 4 then 1 else 0) ∧ F (8 + B * 11 + 6) = f (8 + b * 11 + 6) ∧ F (8 + B * 11 + 7) = f (8 + b * 11 + 7) ∧ F (8 + B * 11 + 8) = -6 ∧ F (8 + B * 11 + 9) = -6 ∧ F (8 + B * 11 + 10) = Int32.ofNat b := by
  obtain ⟨G, e, G6, fr, G0, G1, G2, G3, G4, G5, G6', G7, G8, G9, G10⟩ := s_add (k := k) (O := O) (s0 := if a = 0 then len else f (8 + b * 11 + 0)) (s1 := if a = 1 then len else f (8 + b * 11 + 1)) (s2 := if a = 2 then len else f (8 + b * 11 + 2)) (d := f (8 + b * 11 + 3)) c.f6 hB
  have e1 : f_X6_addPiece k f (Int32.ofNat b) (Int32.ofNat a) len y0 = f_X6_addPiece_b57 k (Int32.ofNat b) (Int32.ofNat a) len y0 f (if a = 0 then len else f (8 + b * 11 + 0)) (if a = 1 then len else f (8 + b * 11 + 1)) (if a = 2 then len else f (8 + b * 11 + 2)) := by
    rw [f_X6_addPiece]
    simp only [f_X6_addPiece_b17, f_X6_addPiece_b37, s_blk0 (show b < 24 by omega), s_blk1 (show b < 24 by omega), s_blk2 (show b < 24 by omega), zb1_some]
    have q : a = 0 ∨ a = 1 ∨ a = 2 := by omega
    rcases q with rfl | rfl | rfl
    · rfl
    · rfl
    · rfl
  have gb : ∀ w, w < 11 → G (8 + b * 11 + w) = f (8 + b * 11 + w) := fun w hw => fr _ (by omega) (by unfold inB; omega)
  have cG : CI G (B + 1) O := ⟨by omega, c.hO, G6, by rw [fr 7 (by omega) (by unfold inB; omega)]; exact c.f7⟩
  have rz : zcnt (fun b => decide (G (8 + b * 11 + 5) = 1)) (B + 1) = zcnt (fun b => decide (f (8 + b * 11 + 5) = 1)) B := by
    rw [zcnt, if_neg (by rw [G5]; decide)]
    exact zcnt_congr (fun i hi => by rw [fr _ (by omega) (by unfold inB; omega)])
  have tl : ∀ H : Nat → Int32, H (8 + b * 11 + 6) = f (8 + b * 11 + 6) → H (8 + b * 11 + 7) = f (8 + b * 11 + 7) → f_X6_addPiece_b106 k (Int32.ofNat b) (Int32.ofNat a) len y0 H (Int32.ofNat B) = some (Int32.ofNat B, upd (upd (upd H (8 + B * 11 + 6) (f (8 + b * 11 + 6))) (8 + B * 11 + 7) (f (8 + b * 11 + 7))) (8 + B * 11 + 10) (Int32.ofNat b)) := fun H h6 h7 => by
    rw [f_X6_addPiece_b106, s_blk6 (by omega), zb1_some, h6, s_sblk6 hB, zb1_some, s_blk7 (by omega), zb1_some, upd_ne (by omega), h7, s_sblk7 hB, zb1_some, s_sblk10 hB, zb1_some]
  rw [e1, f_X6_addPiece_b57, s_blk3 (by omega), zb1_some, e, zb2_some]
  by_cases q : ¬ y0 = 0 ∧ zcnt (fun b => decide (f (8 + b * 11 + 5) = 1)) B < 4
  · refine ⟨_, by
      rw [if_neg q.1, s_roof cG hk, rz, if_pos q.2, zb1_some, if_neg n10, s_sblk5 hB, zb1_some]
      exact tl _ (by rw [upd_ne (by omega)]; exact gb 6 (by omega)) (by rw [upd_ne (by omega)]; exact gb 7 (by omega)), by simp (disch := omega) only [upd_ne, upd_at]; exact G6, fun i i1 i2 => ?_, by simp (disch := omega) only [upd_ne, upd_at]; exact G0, by simp (disch := omega) only [upd_ne, upd_at]; exact G1, by simp (disch := omega) only [upd_ne, upd_at]; exact G2, by simp (disch := omega) only [upd_ne, upd_at]; exact G3, by simp (disch := omega) only [upd_ne, upd_at]; exact G4, by rw [if_pos q]; simp (disch := omega) only [upd_ne, upd_at], by simp (disch := omega) only [upd_ne, upd_at], by simp (disch := omega) only [upd_ne, upd_at], by simp (disch := omega) only [upd_ne, upd_at]; exact G8, by simp (disch := omega) only [upd_ne, upd_at]; exact G9, by simp (disch := omega) only [upd_ne, upd_at]⟩
    have := fr i i1 i2
    unfold inB at i2
    rw [upd_ne (by omega), upd_ne (by omega), upd_ne (by omega), upd_ne (by omega)]
    exact this
  · refine ⟨upd (upd (upd G (8 + B * 11 + 6) (f (8 + b * 11 + 6))) (8 + B * 11 + 7) (f (8 + b * 11 + 7))) (8 + B * 11 + 10) (Int32.ofNat b), ?_, by simp (disch := omega) only [upd_ne, upd_at]; exact G6, fun i i1 i2 => ?_, by simp (disch := omega) only [upd_ne, upd_at]; exact G0, by simp (disch := omega) only [upd_ne, upd_at]; exact G1, by simp (disch := omega) only [upd_ne, upd_at]; exact G2, by simp (disch := omega) only [upd_ne, upd_at]; exact G3, by simp (disch := omega) only [upd_ne, upd_at]; exact G4, by rw [if_neg q]; simp (disch := omega) only [upd_ne, upd_at]; exact G5, by simp (disch := omega) only [upd_ne, upd_at], by simp (disch := omega) only [upd_ne, upd_at], by simp (disch := omega) only [upd_ne, upd_at]; exact G8, by simp (disch := omega) only [upd_ne, upd_at]; exact G9, by simp (disch := omega) only [upd_ne, upd_at]⟩
    · by_cases q0 : y0 = 0
      · rw [if_pos q0]
        exact tl _ (gb 6 (by omega)) (gb 7 (by omega))
      · rw [if_neg q0, s_roof cG hk, rz, if_neg (fun r => q ⟨q0, r⟩), zb1_some, if_pos rfl]
        exact tl _ (gb 6 (by omega)) (gb 7 (by omega))
    · have := fr i i1 i2
      unfold inB at i2
      rw [upd_ne (by omega), upd_ne (by omega), upd_ne (by omega)]
      exact this
